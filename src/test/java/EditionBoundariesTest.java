/** The boundaries that "Pieces" and "An edition" name, sentence by sentence. */
final class EditionBoundariesTest {
    private static final int STATE = NewspaperMakeup.ILLEGAL_STATE;
    private static final int NONE = NewspaperMakeup.NONE;

    private static final Checks checks = new Checks();

    private static void due(String call, long got, long want) {
        checks.due(call, got, want);
    }

    public static void main(String[] args) {
        oneToThreePieces();
        oneOrMoreParagraphs();
        paragraphsInTurn();
        jumpLines();
        linesOfPieces();
        firstPieceOnTheHomePage();
        piecesOnDifferentPages();
        editionsFromOne();
        emptyColumns();
        allThatAreAlive();
        thoseAheadFirst();
        printedInTheEditionBefore();
        notChangedSince();
        noLineInCommon();
        noLineInCommonOfAnyPiece();
        keepsAllPieces();
        changedByHomeOrParagraphs();
        changedByKillAndRevive();
        changedByPages();
        ranksDoNotCount();
        longestSequences();
        gapsByColumnsThenLines();
        topOfTheGap();
        wholeStory();
        firstGapForTheWhole();
        mostParagraphsFirst();
        firstGapForTheFirstPiece();
        pagesInTurn();
        restWithItsJumpLine();
        firstGapForTheRest();
        mostParagraphsSecond();
        firstGapForTheSecondPiece();
        thirdPiece();
        thirdPieceInTurn();
        heldOverOneParagraph();
        heldOverAtTheFirstPiece();
        heldOverAtTheSecondPiece();
        heldOverAtTheThirdPiece();
        movedOnlyIfPrintedInBoth();
        movedByNumberOfPieces();
        movedByPage();
        movedByColumn();
        movedByTop();
        movedByFirstParagraph();
        notMoved();
        notMovedAnyMore();
        twelfthStory();
        checks.finish("EditionBoundariesTest");
    }

    /** A newspaper with the stories of a text, of which an edition is made. */
    private static NewspaperMakeup made(int pages, int columns, int lines, String text) {
        NewspaperMakeup x = Checks.loaded(pages, columns, lines, text);
        x.make();
        return x;
    }

    /** Page, column, top, lines, first paragraph and paragraphs of a piece. */
    private static void piece(NewspaperMakeup x, int story, int piece, int... want) {
        for (int what = 0; what < want.length; what++) {
            due("piece " + story + " " + piece + " " + what, x.piece(story, piece, what),
                    want[what]);
        }
    }

    /** Story 1 stands below the gap that killed story 0 leaves: only if changed it moves up. */
    private static NewspaperMakeup belowAGap() {
        NewspaperMakeup x = made(2, 1, 20, "1@0:9;2@0:5,2;");
        x.kill(0);
        return x;
    }

    private static void moves(String call, NewspaperMakeup x, int line) {
        x.make();
        due(call, x.piece(1, 0, 2), line);
    }

    // ---- Pieces

    private static void oneToThreePieces() {
        checks.sentence("In an edition, a story is printed in 1 to 3 pieces, or it is held over.");
        String[] stories = {"1@0:10;", "1@0:9,9;", "1@0:9,8,9;", "1@0:9,8,8,9;"};
        int[] pieces = {1, 2, 3, 0};
        for (int i = 0; i < stories.length; i++) {
            NewspaperMakeup x = made(5, 1, 10, stories[i]);
            due(stories[i], x.pieces(0), pieces[i]);
            due(stories[i], x.edition(3), pieces[i]);
            due("held over", x.edition(1), pieces[i] == 0 ? 1 : 0);
            due("behind the last piece", x.piece(0, pieces[i], 0), NONE);
        }
    }

    private static void oneOrMoreParagraphs() {
        checks.sentence("and one or more successive paragraphs.");
        // Page 0 has one free line: room for a jump line, but for no paragraph with it.
        NewspaperMakeup x = made(2, 1, 10, "1@0:9;2@0:1,1;");
        due("no piece without a paragraph", x.pieces(1), 0);
        // Page 0 has two free lines: one paragraph with its jump line.
        NewspaperMakeup y = made(2, 1, 10, "1@0:8;2@0:1,1,1;");
        piece(y, 1, 0, 0, 0, 8, 2, 0, 1);
        piece(y, 1, 1, 1, 0, 0, 3, 1, 2);
        // Page 1 has two free lines, room for two jump lines: the second piece goes to page 2.
        NewspaperMakeup z = made(4, 1, 10, "1@1:8;2@0:9,8,9;");
        piece(z, 1, 1, 2, 0, 0, 10, 1, 1);
        piece(z, 1, 2, 3, 0, 0, 10, 2, 1);
    }

    private static void paragraphsInTurn() {
        checks.sentence("The first piece begins with paragraph 0, each other one with the "
                + "paragraph behind the last one of the piece before, and the last one ends with "
                + "the last paragraph.");
        NewspaperMakeup x = made(3, 1, 10, "1@0:3,3,3,4,4,2,3,4;");
        piece(x, 0, 0, 0, 0, 0, 10, 0, 3);
        piece(x, 0, 1, 1, 0, 0, 10, 3, 2);
        piece(x, 0, 2, 2, 0, 0, 10, 5, 3);
        NewspaperMakeup y = made(3, 1, 10, "1@0:1,1,1,1,1,1,1,1;2@0:1,1,1,1,1,1,1,1;");
        piece(y, 0, 0, 0, 0, 0, 8, 0, 8);
        piece(y, 1, 0, 0, 0, 8, 2, 0, 1);
        piece(y, 1, 1, 1, 0, 0, 8, 1, 7);
    }

    private static void jumpLines() {
        checks.sentence("A piece takes as many lines as its paragraphs have, plus one for a jump "
                + "line at its end if another piece follows, plus one for a jump line at its "
                + "beginning if it is not the first one.");
        NewspaperMakeup x = made(3, 1, 10, "1@0:7;2@0:9,8,7;");
        due("one piece: no jump line", x.piece(0, 0, 3), 7);
        due("no room for 9 and a jump line", x.pieces(1), 0);
        x.kill(0);
        x.make();
        due("first of three: one", x.piece(1, 0, 3), 10);
        due("second of three: both", x.piece(1, 1, 3), 10);
        due("third of three: one", x.piece(1, 2, 3), 8);
        due("jump lines", x.edition(4), 4);
        due("free lines", x.edition(5), 2);
        NewspaperMakeup y = made(2, 1, 10, "1@0:5,6;");
        due("first of two: one", y.piece(0, 0, 3), 6);
        due("second of two: one", y.piece(0, 1, 3), 7);
        due("jump lines", y.edition(4), 2);
    }

    private static void linesOfPieces() {
        checks.sentence("Its lines are successive lines of its column; different pieces have no "
                + "line in common.");
        NewspaperMakeup x = made(2, 2, 10, "1@0:4;2@0:3,3,4;3@1:6,5;4@1:4;5@0:6;");
        int[][] owners = new int[4][10];
        for (int[] column : owners) {
            java.util.Arrays.fill(column, NONE);
        }
        for (int story = 0; story < 5; story++) {
            for (int piece = 0; piece < Math.max(0, x.pieces(story)); piece++) {
                int column = 2 * x.piece(story, piece, 0) + x.piece(story, piece, 1);
                int top = x.piece(story, piece, 2);
                for (int line = top; line < top + x.piece(story, piece, 3); line++) {
                    due("free before", owners[column][line], NONE);
                    owners[column][line] = story;
                }
            }
        }
        for (int column = 0; column < 4; column++) {
            for (int line = 0; line < 10; line++) {
                due("line " + line + " of column " + column, x.at(column / 2, column % 2, line),
                        owners[column][line]);
            }
        }
        due("story 2 below story 0", x.at(0, 0, 4), 2);
        due("to the end", x.at(0, 0, 9), 2);
        due("held over", x.pieces(4), 0);
    }

    private static void firstPieceOnTheHomePage() {
        checks.sentence("The first piece is on the home page");
        for (int home = 0; home < 5; home++) {
            NewspaperMakeup x = made(5, 1, 10, "1@" + home + ":9;5@" + home + ":9,8,9;");
            due("page", x.piece(0, 0, 0), home);
            due("no other page for the first piece", x.pieces(1), 0);
            x.kill(0);
            x.make();
            due("page", x.piece(1, 0, 0), home);
            due("pieces", x.pieces(1), 3);
        }
    }

    private static void piecesOnDifferentPages() {
        checks.sentence("all pieces of a story are on different pages.");
        // Column 1 of page 0 has room for the rest, but it is the home page.
        NewspaperMakeup x = made(2, 2, 10, "1@1:10;1@1:10;5@0:9,9;");
        due("not twice on the home page", x.pieces(2), 0);
        // Column 1 of page 1 has room for the third piece, but the second one is on page 1.
        NewspaperMakeup y = made(3, 2, 10, "1@2:10;1@2:10;5@0:9,8,9;");
        due("not twice on page 1", y.pieces(2), 0);
        NewspaperMakeup z = made(2, 4, 60, "5@0:30,29,30,28,30,29;");
        due("two pages: never three pieces", z.pieces(0), 0);
    }

    // ---- An edition

    private static void editionsFromOne() {
        checks.sentence("Editions are made one after the other; they are numbered from 1. At first "
                + "there is none.");
        NewspaperMakeup x = new NewspaperMakeup();
        due("at first", x.count(5), 0);
        due("at first", x.edition(0), STATE);
        for (int number = 1; number <= 20; number++) {
            due("make", x.make(), 0);
            due("number", x.count(5), number);
        }
        x.next(0);
        due("a question makes none", x.count(5), 20);
        x.undo();
        due("undone", x.count(5), 19);
        x.make();
        due("the number comes again", x.count(5), 20);
        due("an edition without stories", x.edition(5), 180);
    }

    private static void emptyColumns() {
        checks.sentence("To make an edition, one begins with empty columns");
        NewspaperMakeup x = made(2, 1, 10, "1@0:10;2@0:10;");
        due("full", x.pieces(1), 0);
        x.kill(0);
        due("its lines are free", x.make(), 0);
        piece(x, 1, 0, 0, 0, 0, 10);
        x.kill(1);
        due("nothing is left", x.make(), 0);
        due("free", x.edition(5), 20);
        due("free", x.longestGap(0), 10);
    }

    private static void allThatAreAlive() {
        checks.sentence("goes through all stories that are alive");
        NewspaperMakeup x = new NewspaperMakeup();
        for (int story = 0; story < 12; story++) {
            x.addStory(12 - story, story % 3, 1);
        }
        due("make", x.make(), 0);
        due("all twelve", x.edition(0), 12);
        x.kill(0);
        x.kill(11);
        due("make", x.make(), 0);
        due("ten", x.edition(0), 10);
        due("killed", x.pieces(0), NONE);
        due("killed", x.pieces(11), NONE);
        due("neither printed nor held over", x.edition(1), 0);
    }

    private static void thoseAheadFirst() {
        checks.sentence("those that go ahead first:");
        NewspaperMakeup x = made(2, 1, 20, "3@0:3;2@0:4;3@0:5;1@0:6;");
        due("rank 1", x.piece(3, 0, 2), 0);
        due("rank 2", x.piece(1, 0, 2), 6);
        due("rank 3, story 0", x.piece(0, 0, 2), 10);
        due("rank 3, story 2", x.piece(2, 0, 2), 13);
        // The one that goes ahead is placed anew where the other one was.
        NewspaperMakeup y = made(2, 1, 10, "50@0:6;50@0:6;");
        due("story 0", y.pieces(0), 1);
        y.setRank(1, 49);
        due("make", y.make(), 1);
        due("story 1", y.pieces(1), 1);
        due("story 0", y.pieces(0), 0);
    }

    private static void printedInTheEditionBefore() {
        checks.sentence("(a) If the story was printed in the edition before");
        NewspaperMakeup x = made(2, 1, 20, "1@0:4;2@0:5;");
        due("below story 0", x.piece(1, 0, 2), 4);
        x.addStory(1, 0, 12);
        due("no room for story 1", x.make(), 1);
        x.kill(0);
        x.kill(2);
        x.make();
        due("placed anew, not where it was two editions ago", x.piece(1, 0, 2), 0);
    }

    private static void notChangedSince() {
        checks.sentence("has not been changed since");
        NewspaperMakeup x = made(2, 1, 20, "1@0:9;2@0:5,2;");
        x.setHome(1, 0);
        x.setParagraph(1, 0, 5);
        x.make();
        due("still below story 0", x.piece(1, 0, 2), 9);
        x.kill(0);
        moves("it was changed before the edition before", x, 9);
        x.setHome(1, 0);
        moves("changed", x, 0);
        NewspaperMakeup y = belowAGap();
        y.setHome(1, 0);
        y.undo();
        moves("the change is undone", y, 9);
        // Story 0 stands below story 1 here.
        NewspaperMakeup w = made(2, 1, 20, "2@0:5;1@0:9;");
        w.setHome(0, 0);
        w.make();
        w.kill(1);
        w.make();
        due("it was changed before the edition before", w.piece(0, 0, 2), 9);
        NewspaperMakeup z = belowAGap();
        z.setHome(0, 0);
        z.addStory(9, 1, 1);
        z.setParagraph(2, 0, 2);
        moves("others were changed", z, 9);
    }

    private static void noLineInCommon() {
        checks.sentence("and all its pieces of that edition have no line in common with pieces "
                + "that are placed in this edition already");
        for (int lines = 1; lines <= 10; lines++) {
            NewspaperMakeup x = made(2, 1, 20, "5@0:4;5@0:5;");
            x.kill(0);
            x.addStory(1, 0, lines);
            x.make();
            due("the new one goes ahead", x.piece(2, 0, 2), 0);
            due(lines + " lines above line 4", x.piece(1, 0, 2), lines <= 4 ? 4 : lines);
            due("moved", x.wasMoved(1), lines <= 4 ? 0 : 1);
        }
        // Those that come behind give way themselves.
        NewspaperMakeup y = made(2, 1, 20, "5@0:4;5@0:5;");
        y.kill(0);
        y.addStory(6, 0, 10);
        y.make();
        due("it stays", y.piece(1, 0, 2), 4);
        due("the new one comes behind it", y.piece(2, 0, 2), 9);
        // The same lines of another column, or of another page, are not in common.
        NewspaperMakeup z = made(2, 2, 10, "5@0:10;5@0:6;");
        z.addStory(1, 1, 10);
        z.setHome(0, 0);
        z.setRank(0, 1);
        z.make();
        due("it stays", z.piece(1, 0, 1), 1);
        due("it stays", z.wasMoved(1), 0);
    }

    private static void noLineInCommonOfAnyPiece() {
        checks.sentence("all its pieces of that edition have no line in common");
        for (int page = 0; page < 3; page++) {
            NewspaperMakeup x = made(3, 1, 20, "5@0:9,8,15,2;");
            piece(x, 0, 0, 0, 0, 0, 18, 0, 2);
            piece(x, 0, 1, 1, 0, 0, 18, 2, 2);
            x.setParagraph(0, 3, 9);
            x.make();
            piece(x, 0, 1, 1, 0, 0, 17, 2, 1);
            piece(x, 0, 2, 2, 0, 0, 10, 3, 1);
            x.addStory(1, page, 1);
            due("make", x.make(), 0);
            piece(x, 0, page, page, 0, 1);
            due("a line in common on page " + page, x.wasMoved(0), 1);
        }
        NewspaperMakeup y = made(4, 1, 20, "5@0:9,8,15,9;");
        y.addStory(1, 3, 1);
        y.make();
        due("none on page 3", y.wasMoved(0), 0);
    }

    private static void keepsAllPieces() {
        checks.sentence("it keeps these pieces.");
        NewspaperMakeup x = made(4, 2, 10, "1@1:10;1@1:10;5@0:9,8,9;1@0:10;");
        piece(x, 2, 0, 0, 1, 0, 10, 0, 1, 2, NONE);
        piece(x, 2, 1, 2, 0, 0, 10, 1, 1, 3, 0);
        piece(x, 2, 2, 3, 0, 0, 10, 2, 1, NONE, 2);
        x.kill(0);
        x.kill(1);
        x.kill(3);
        for (int i = 0; i < 3; i++) {
            x.make();
            piece(x, 2, 0, 0, 1, 0, 10, 0, 1, 2, NONE);
            piece(x, 2, 1, 2, 0, 0, 10, 1, 1, 3, 0);
            piece(x, 2, 2, 3, 0, 0, 10, 2, 1, NONE, 2);
            due("not moved", x.wasMoved(2), 0);
        }
        x.setHome(2, 0);
        x.make();
        piece(x, 2, 0, 0, 0, 0, 10, 0, 1, 1, NONE);
        piece(x, 2, 1, 1, 0, 0, 10, 1, 1, 2, 0);
        piece(x, 2, 2, 2, 0, 0, 10, 2, 1, NONE, 1);
        // Questions about other editions do not stand in the way of the pieces that are kept.
        NewspaperMakeup z = made(4, 1, 10, "5@0:9,8,8;");
        z.addStory(1, 2, 2);
        due("the third piece would go to page 3", z.next(1), 1);
        z.undo();
        z.make();
        piece(z, 0, 2, 2, 0, 0, 9, 2, 1, NONE, 1);
        // Two pieces are kept though the whole story has room now.
        NewspaperMakeup y = made(2, 1, 10, "1@0:5;2@0:4,4;");
        y.kill(0);
        y.make();
        due("two", y.pieces(1), 2);
        y.setHome(1, 0);
        y.make();
        due("one", y.pieces(1), 1);
    }

    private static void changedByHomeOrParagraphs() {
        checks.sentence("(A story is changed if its home page or its paragraphs were changed");
        moves("not changed", belowAGap(), 9);
        NewspaperMakeup x = belowAGap();
        x.setHome(1, 0);
        moves("same home page", x, 0);
        x = belowAGap();
        x.setHome(1, 1);
        x.make();
        piece(x, 1, 0, 1, 0, 0);
        x = belowAGap();
        x.addParagraph(1, 1);
        moves("one more", x, 0);
        x = belowAGap();
        x.setParagraph(1, 0, 5);
        moves("same length", x, 0);
        x = belowAGap();
        x.setParagraph(1, 1, 0);
        moves("one fewer", x, 0);
        x = belowAGap();
        x.setParagraph(1, 1, 31);
        x.setHome(1, 2);
        x.addParagraph(1, 0);
        moves("refused", x, 9);
    }

    private static void changedByKillAndRevive() {
        checks.sentence("or if it was killed, also if it was revived again");
        NewspaperMakeup x = belowAGap();
        x.kill(1);
        x.revive(1);
        moves("killed and revived", x, 0);
        x = belowAGap();
        x.kill(1);
        x.make();
        due("killed", x.pieces(1), NONE);
        x.revive(1);
        moves("revived an edition later", x, 0);
        due("not printed in the edition before", x.wasMoved(1), 0);
        x = belowAGap();
        x.revive(1);
        moves("it was alive: refused", x, 9);
        x = belowAGap();
        x.kill(1);
        x.undo();
        moves("undone", x, 9);
    }

    private static void changedByPages() {
        checks.sentence("or if the pages were changed.");
        NewspaperMakeup x = belowAGap();
        x.setPages(2, 1, 20);
        moves("to what they were", x, 0);
        x = belowAGap();
        x.setPages(2, 1, 61);
        moves("refused", x, 9);
        // The old places do not exist any more.
        NewspaperMakeup y = made(5, 4, 60, "1@0:30,30;1@0:30,30;1@0:30,30;9@0:5;9@0:30,20;");
        piece(y, 3, 0, 0, 3, 0, 5, 0, 1);
        piece(y, 4, 0, 0, 3, 5, 50, 0, 2);
        y.setPages(2, 1, 10);
        due("those of 50 lines and more", y.make(), 4);
        piece(y, 3, 0, 0, 0, 0, 5, 0, 1);
        due("moved", y.wasMoved(3), 1);
    }

    private static void ranksDoNotCount() {
        checks.sentence("Ranks do not count.)");
        NewspaperMakeup x = belowAGap();
        x.setRank(1, 1);
        x.setRank(1, 99);
        moves("not changed", x, 9);
    }

    // ---- Gaps

    private static void longestSequences() {
        checks.sentence("A gap is a longest sequence of successive free lines of a column.");
        // Lines 7 to 9 of column 0 and 0 to 3 of column 1 are free.
        NewspaperMakeup x = made(2, 2, 10, "1@0:7;2@0:4;3@0:6;");
        x.kill(1);
        x.addStory(9, 0, 5);
        due("a gap does not go on in the next column", x.make(), 1);
        due("longest", x.longestGap(0), 4);
        x.setParagraph(3, 0, 4);
        due("exactly", x.make(), 0);
        piece(x, 3, 0, 0, 1, 0, 4);
        due("longest", x.longestGap(0), 3);
        // A gap between two pieces is not joined with the one below.
        NewspaperMakeup y = made(2, 1, 10, "1@0:3;1@0:2;1@0:2;");
        y.kill(0);
        y.kill(2);
        y.addStory(9, 0, 6);
        due("3 and 5 lines are not 8", y.make(), 1);
        y.setParagraph(3, 0, 5);
        due("5 lines", y.make(), 0);
        due("to the last line of the page", y.piece(3, 0, 2), 5);
    }

    private static void gapsByColumnsThenLines() {
        checks.sentence("The gaps of a page are ordered by columns, then by their lines.");
        NewspaperMakeup x = made(2, 4, 10, "1@0:3;1@0:3;1@0:4;1@0:3;1@0:7;1@0:10;");
        x.kill(0);
        x.kill(2);
        x.kill(3);
        x.make();
        // Gaps: column 0 lines 0 to 2 and 6 to 9, column 1 lines 0 to 2, column 3.
        int[][] places = {{0, 0}, {0, 6}, {1, 0}, {3, 0}, {3, 3}};
        for (int i = 0; i < places.length; i++) {
            due("add", x.addStory(9, 0, 3), 6 + i);
            x.make();
            piece(x, 6 + i, 0, 0, places[i][0], places[i][1]);
        }
    }

    private static void topOfTheGap() {
        checks.sentence("A piece that is placed in a gap has its top at the first line of the "
                + "gap.");
        NewspaperMakeup x = made(2, 1, 60, "1@0:5;1@0:30;1@0:25;");
        x.kill(1);
        x.addStory(9, 0, 1);
        x.make();
        due("behind story 0", x.piece(3, 0, 2), 5);
        x.addStory(9, 0, 28);
        x.make();
        due("behind story 3", x.piece(4, 0, 2), 6);
        x.addStory(9, 0, 1);
        x.make();
        due("the last free line", x.piece(5, 0, 2), 34);
        due("full", x.longestGap(0), 0);
        x.kill(2);
        x.addStory(9, 0, 25);
        x.make();
        due("to the last line of the page", x.piece(6, 0, 2), 35);
    }

    private static void wholeStory() {
        checks.sentence("First, if there is a gap on the home page in which the whole story has "
                + "room, it is placed in the first such gap.");
        NewspaperMakeup x = made(2, 1, 10, "1@0:5,5;");
        due("exactly a column, without a jump line", x.pieces(0), 1);
        due("free", x.longestGap(0), 0);
        due("one line more", made(2, 1, 10, "1@0:5,6;").pieces(0), 2);
        NewspaperMakeup y = made(2, 1, 60, "1@0:30,30;");
        due("exactly the longest column", y.pieces(0), 1);
        due("all its lines", y.piece(0, 0, 3), 60);
        due("one line more", made(2, 1, 60, "1@0:30,30,1;").pieces(0), 2);
        NewspaperMakeup z = made(2, 1, 20, "1@0:4;1@0:6;1@0:10;");
        z.kill(1);
        z.addStory(9, 0, 3);
        z.addParagraph(3, 3);
        z.make();
        piece(z, 3, 0, 0, 0, 4, 6, 0, 2);
        z.setParagraph(3, 1, 4);
        z.make();
        piece(z, 3, 0, 0, 0, 4, 4, 0, 1);
    }

    private static void firstGapForTheWhole() {
        checks.sentence("in which the whole story has room, it is placed in the first such gap");
        // Free behind them: 5 lines of column 1, and column 3.
        NewspaperMakeup x = made(2, 4, 10, "1@0:6;2@0:4;3@0:5;4@0:10;");
        piece(x, 1, 0, 0, 0, 6);
        piece(x, 2, 0, 0, 1, 0);
        x.addStory(9, 0, 5);
        x.make();
        piece(x, 4, 0, 0, 1, 5);
        x.addStory(9, 0, 1);
        x.make();
        piece(x, 5, 0, 0, 3, 0);
        x.kill(1);
        x.addStory(9, 0, 4);
        x.make();
        piece(x, 6, 0, 0, 0, 6);
    }

    private static void mostParagraphsFirst() {
        checks.sentence("Otherwise the first piece takes as many paragraphs as possible, but not "
                + "all, so that there is a gap on the home page in which they have room with "
                + "their jump line");
        // With its jump line the first piece has 10 lines, or would have 11.
        piece(made(2, 1, 10, "1@0:3,3,3,2;"), 0, 0, 0, 0, 0, 10, 0, 3);
        piece(made(2, 1, 10, "1@0:3,3,4,2;"), 0, 0, 0, 0, 0, 7, 0, 2);
        piece(made(2, 1, 10, "1@0:9,2;"), 0, 0, 0, 0, 0, 10, 0, 1);
        due("10 and a jump line", made(2, 1, 10, "1@0:10,2;").pieces(0), 0);
        // Seven of eight: not all.
        piece(made(2, 1, 10, "1@0:1,1,1,1,1,1,1,4;"), 0, 0, 0, 0, 0, 8, 0, 7);
        piece(made(2, 1, 10, "1@0:1,1,1,1,1,1,1,3;"), 0, 0, 0, 0, 0, 10, 0, 8);
        // The column has 4 lines for them.
        piece(made(2, 1, 10, "1@0:6;2@0:1,1,1,2;"), 1, 0, 0, 0, 6, 4, 0, 3);
        piece(made(2, 1, 10, "1@0:6;2@0:1,1,2,2;"), 1, 0, 0, 0, 6, 3, 0, 2);
    }

    private static void firstGapForTheFirstPiece() {
        checks.sentence("in which they have room with their jump line; it is placed in the first "
                + "such gap.");
        // Column 0 has room for one paragraph, columns 1 and 2 for three.
        NewspaperMakeup x = made(2, 3, 10, "1@0:6;5@0:3,3,3,3;");
        piece(x, 1, 0, 0, 1, 0, 10, 0, 3);
        // Column 0 has room for as many as column 1.
        NewspaperMakeup y = made(2, 2, 10, "1@0:6;2@0:5;5@0:3,3,3;");
        piece(y, 2, 0, 0, 0, 6, 4, 0, 1);
        NewspaperMakeup z = made(2, 2, 10, "1@0:7;2@0:5;5@0:3,3,3;");
        piece(z, 2, 0, 0, 1, 5, 4, 0, 1);
    }

    // ---- The rest

    private static void pagesInTurn() {
        checks.sentence("(c) The pages for the rest are gone through in this order: from the home "
                + "page on upwards to page P - 1, then from page 0 upwards to the home page "
                + "(without the home page).");
        for (int pages = 2; pages <= 5; pages++) {
            for (int home = 0; home < pages; home++) {
                for (int full = 0; full < pages; full++) {
                    NewspaperMakeup x = new NewspaperMakeup();
                    x.setPages(pages, 1, 10);
                    x.addStory(5, home, 9);
                    x.addParagraph(0, 9);
                    for (int i = 1; i <= full; i++) {
                        x.addStory(1, (home + i) % pages, 10);
                    }
                    x.make();
                    String call = home + " of " + pages + ", " + full + " pages are full";
                    due(call, x.pieces(0), full == pages - 1 ? 0 : 2);
                    due(call, x.piece(0, 1, 0), full == pages - 1 ? NONE
                            : (home + full + 1) % pages);
                }
            }
        }
    }

    private static void restWithItsJumpLine() {
        checks.sentence("The rest is placed in the first gap, by this order of pages, in which all "
                + "of it has room with its jump line.");
        due("10 lines", made(2, 1, 10, "1@0:9,9;").pieces(0), 2);
        due("11 lines", made(2, 1, 10, "1@0:9,10;").pieces(0), 0);
        // Page 1 has 5 free lines, page 2 has 6.
        String text = "1@1:5;1@2:4;5@0:9,";
        piece(made(3, 1, 10, text + "4;"), 2, 1, 1, 0, 5, 5);
        piece(made(3, 1, 10, text + "5;"), 2, 1, 2, 0, 4, 6);
        due("7 lines", made(3, 1, 10, text + "6;").pieces(2), 0);
    }

    private static void firstGapForTheRest() {
        checks.sentence("The rest is placed in the first gap, by this order of pages");
        // Page 1 has 3 free lines in column 0 and 6 in column 1, page 2 is empty.
        String text = "1@1:7;2@1:4;5@0:9,";
        piece(made(3, 2, 10, text + "2;"), 2, 1, 1, 0, 7, 3, 1, 1);
        piece(made(3, 2, 10, text + "3;"), 2, 1, 1, 1, 4, 4, 1, 1);
        piece(made(3, 2, 10, text + "5;"), 2, 1, 1, 1, 4, 6, 1, 1);
        piece(made(3, 2, 10, text + "6;"), 2, 1, 2, 0, 0, 7, 1, 1);
    }

    private static void mostParagraphsSecond() {
        checks.sentence("If there is none, the second piece takes as many of the paragraphs that "
                + "are left as possible, but not all, so that there is a gap (on any of these "
                + "pages) in which they have room with both jump lines");
        // With both jump lines the second piece has 10 lines, or would have 11.
        piece(made(3, 1, 10, "1@0:9,4,4,9;"), 0, 1, 1, 0, 0, 10, 1, 2);
        due("11 lines", made(3, 1, 10, "1@0:9,4,5,9;").pieces(0), 0);
        piece(made(3, 1, 10, "1@0:9,4,5,4;"), 0, 1, 1, 0, 0, 6, 1, 1);
        piece(made(3, 1, 10, "1@0:9,8,9;"), 0, 1, 1, 0, 0, 10, 1, 1);
        due("9 and both jump lines", made(3, 1, 10, "1@0:9,9,1;").pieces(0), 0);
        // 9 lines are left, and one jump line: they have room, and are not cut.
        due("the rest has room", made(3, 1, 10, "1@0:9,8,1;").pieces(0), 2);
        // Six of seven: not all.
        piece(made(3, 1, 10, "1@0:9,1,1,1,1,1,1,4;"), 0, 1, 1, 0, 0, 8, 1, 6);
        // The last page of the order has most room.
        NewspaperMakeup x = made(4, 1, 10, "1@1:4;1@2:4;5@0:9,4,4,5;");
        piece(x, 2, 1, 3, 0, 0, 10, 1, 2);
        piece(x, 2, 2, 1, 0, 4, 6, 3, 1);
    }

    private static void firstGapForTheSecondPiece() {
        checks.sentence("in which they have room with both jump lines; it is placed in the first "
                + "such gap by this order");
        // Home page 2 of 4: the order is 3, 0, 1. Page 3 has 5 lines, pages 0 and 1 have 6 or more.
        NewspaperMakeup x = made(4, 1, 10, "1@3:5;1@0:4;5@2:9,4,8;");
        piece(x, 2, 1, 0, 0, 4, 6, 1, 1);
        piece(x, 2, 2, 1, 0, 0, 9, 2, 1);
        NewspaperMakeup y = made(4, 1, 10, "1@3:4;1@0:4;5@2:9,4,8;");
        piece(y, 2, 1, 3, 0, 4, 6, 1, 1);
        // By columns, too: column 0 of page 1 is one line too short.
        NewspaperMakeup z = made(3, 2, 10, "1@0:10;1@1:5;1@1:6;1@2:10;5@0:9,2,8;");
        piece(z, 4, 1, 1, 0, 5, 4, 1, 1);
        NewspaperMakeup w = made(3, 2, 10, "1@0:10;1@1:5;1@1:6;1@2:10;5@0:9,3,8;");
        piece(w, 4, 1, 1, 0, 5, 5, 1, 1);
        NewspaperMakeup v = made(3, 2, 10, "1@0:10;1@1:7;1@1:6;1@2:10;5@0:9,2,8;");
        piece(v, 4, 1, 1, 1, 6, 4, 1, 1);
    }

    private static void thirdPiece() {
        checks.sentence("and the third piece, all that is left, is placed in the first gap, by the "
                + "same order of pages without that of the second piece, in which it has room "
                + "with its jump line.");
        piece(made(3, 1, 10, "1@0:9,8,9;"), 0, 2, 2, 0, 0, 10, 2, 1);
        due("11 lines", made(3, 1, 10, "1@0:9,8,10;").pieces(0), 0);
        piece(made(3, 1, 10, "1@0:9,8,1,1,1,1,1,4;"), 0, 2, 2, 0, 0, 10, 2, 6);
        due("11 lines", made(3, 1, 10, "1@0:9,8,1,1,1,1,1,5;").pieces(0), 0);
        // Page 2 has 4 free lines.
        piece(made(3, 1, 10, "1@2:6;5@0:9,8,3;"), 1, 2, 2, 0, 6, 4, 2, 1);
        due("5 lines", made(3, 1, 10, "1@2:6;5@0:9,8,4;").pieces(1), 0);
        // Both columns of page 1 have room, but the second piece is there.
        due("not there", made(3, 2, 10, "1@0:10;1@2:10;1@2:10;5@0:9,8,9;").pieces(3), 0);
    }

    private static void thirdPieceInTurn() {
        checks.sentence("is placed in the first gap, by the same order of pages without that of "
                + "the second piece");
        for (int home = 0; home < 4; home++) {
            // The second piece finds room on the page at this place of the order alone.
            for (int second = 1; second < 4; second++) {
                NewspaperMakeup x = new NewspaperMakeup();
                x.setPages(4, 1, 10);
                x.addStory(5, home, 9);
                x.addParagraph(0, 8);
                x.addParagraph(0, 4);
                for (int i = 1; i < 4; i++) {
                    if (i != second) {
                        x.addStory(1, (home + i) % 4, 5);
                    }
                }
                x.make();
                due("second", x.piece(0, 1, 0), (home + second) % 4);
                int third = second == 1 ? 2 : 1;
                due("third", x.piece(0, 2, 0), (home + third) % 4);
                due("third", x.piece(0, 2, 2), 5);
            }
        }
    }

    // ---- Held over

    private static void heldOverOneParagraph() {
        checks.sentence("(d) If one of these steps cannot be done (also if not even one paragraph "
                + "has room, or the story has just one)");
        NewspaperMakeup x = made(2, 1, 10, "1@0:11;");
        due("held over", x.edition(1), 1);
        due("pieces", x.pieces(0), 0);
        due("free", x.edition(5), 20);
        x.setParagraph(0, 0, 10);
        due("has room", x.make(), 0);
        NewspaperMakeup y = made(2, 1, 10, "1@0:5;2@0:6;");
        due("one line is missing, page 1 is empty", y.pieces(1), 0);
        y.setParagraph(1, 0, 5);
        due("has room", y.make(), 0);
    }

    private static void heldOverAtTheFirstPiece() {
        checks.sentence("(also if not even one paragraph has room");
        due("10 and a jump line", made(3, 1, 10, "1@0:10,1;").pieces(0), 0);
        due("9 and a jump line", made(3, 1, 10, "1@0:9,2;").pieces(0), 2);
        due("the home page is full", made(3, 1, 10, "1@0:10;2@0:1,1;").pieces(1), 0);
        due("one line is free", made(3, 1, 10, "1@0:9;2@0:1,1;").pieces(1), 0);
        due("two lines are free", made(3, 1, 10, "1@0:8;2@0:1,2;").pieces(1), 2);
    }

    private static void heldOverAtTheSecondPiece() {
        checks.sentence("(d) If one of these steps cannot be done");
        NewspaperMakeup x = made(3, 1, 10, "1@0:9,9,9;2@0:10;");
        due("9 and both jump lines", x.pieces(0), 0);
        piece(x, 1, 0, 0, 0, 0, 10);
        due("one paragraph is left, and has no room", made(3, 1, 10, "1@0:9,10;").pieces(0), 0);
        NewspaperMakeup y = made(2, 1, 10, "1@1:10;2@0:5,6;3@0:10;");
        due("the other pages are full", y.pieces(1), 0);
        piece(y, 2, 0, 0, 0, 0, 10);
    }

    private static void heldOverAtTheThirdPiece() {
        checks.sentence("the story is held over in this edition, and no piece of it is placed.");
        NewspaperMakeup x = made(3, 1, 10, "1@0:9,8,10;2@0:10;2@1:10;2@2:10;");
        due("no room for the third piece", x.pieces(0), 0);
        due("no piece", x.piece(0, 0, 0), NONE);
        due("nothing else is held over", x.edition(1), 1);
        for (int page = 0; page < 3; page++) {
            due("its lines are free for others", x.piece(page + 1, 0, 2), 0);
            due("its lines are free for others", x.at(page, 0, 0), page + 1);
        }
        due("no jump line of it", x.edition(4), 0);
        // Two pages: the third piece has no page at all.
        NewspaperMakeup y = made(2, 1, 10, "1@0:9,8,1,1;2@0:10;2@1:10;");
        due("no third page", y.pieces(0), 0);
        due("pieces", y.edition(3), 2);
        // With 5 lines on page 1 and 9 + 7 on page 2 it would have room, but 5 + 9 go before 5.
        NewspaperMakeup z = made(3, 1, 20, "1@1:13;5@0:18,5,9,7;");
        due("a shorter second piece is not tried", z.pieces(1), 0);
        z.setParagraph(1, 3, 6);
        due("6 and a jump line have room on page 1", z.make(), 0);
        piece(z, 1, 1, 2, 0, 0, 16, 1, 2);
        piece(z, 1, 2, 1, 0, 13, 7, 3, 1);
    }

    // ---- Moved

    private static void movedOnlyIfPrintedInBoth() {
        checks.sentence("A story is moved in an edition if it is printed in it and in the edition "
                + "before");
        NewspaperMakeup x = made(2, 1, 10, "5@0:6;");
        due("in no edition before", x.wasMoved(0), 0);
        x.addStory(1, 0, 5);
        due("held over", x.make(), 1);
        due("not printed in it", x.wasMoved(0), NONE);
        due("not printed in it", x.edition(2), 0);
        x.setParagraph(1, 0, 4);
        due("printed again", x.make(), 0);
        due("at another place", x.piece(0, 0, 2), 4);
        due("held over in the edition before", x.wasMoved(0), 0);
        due("held over in the edition before", x.edition(2), 0);
        x.kill(0);
        x.make();
        x.kill(1);
        x.revive(0);
        x.make();
        due("at another place", x.piece(0, 0, 2), 0);
        due("killed in the edition before", x.wasMoved(0), 0);
        x.setHome(0, 1);
        x.make();
        due("printed in both", x.wasMoved(0), 1);
        due("printed in both", x.edition(2), 1);
        x.make();
        due("kept", x.wasMoved(0), 0);
    }

    private static void movedByNumberOfPieces() {
        checks.sentence("with other pieces (another number of pieces");
        NewspaperMakeup x = made(3, 1, 10, "5@0:9,1;");
        due("one", x.pieces(0), 1);
        x.addParagraph(0, 2);
        x.setParagraph(0, 0, 8);
        x.make();
        piece(x, 0, 0, 0, 0, 0, 10, 0, 2);
        due("two", x.wasMoved(0), 1);
        x.setParagraph(0, 2, 8);
        x.addParagraph(0, 2);
        x.make();
        piece(x, 0, 0, 0, 0, 0, 10, 0, 2);
        piece(x, 0, 1, 1, 0, 0, 10, 2, 1);
        due("three", x.wasMoved(0), 1);
        x.setParagraph(0, 3, 0);
        x.make();
        piece(x, 0, 1, 1, 0, 0, 9, 2, 1);
        due("two", x.wasMoved(0), 1);
        x.setParagraph(0, 2, 0);
        x.make();
        piece(x, 0, 0, 0, 0, 0, 9, 0, 2);
        due("one", x.wasMoved(0), 1);
    }

    private static void movedByPage() {
        checks.sentence("or another page, column, top or first paragraph of one of them)");
        NewspaperMakeup x = made(2, 1, 10, "5@0:6;");
        x.setHome(0, 1);
        x.make();
        piece(x, 0, 0, 1, 0, 0, 6, 0, 1);
        due("another page", x.wasMoved(0), 1);
        // The last one of three pieces, on a page with an empty column.
        NewspaperMakeup y = made(4, 1, 10, "5@0:9,8,8;");
        piece(y, 0, 2, 2, 0, 0);
        y.addStory(1, 2, 2);
        y.make();
        piece(y, 0, 0, 0, 0, 0);
        piece(y, 0, 1, 1, 0, 0);
        piece(y, 0, 2, 3, 0, 0);
        due("another page of the last piece", y.wasMoved(0), 1);
    }

    private static void movedByColumn() {
        checks.sentence("or another page, column, top or first paragraph of one of them)");
        NewspaperMakeup x = made(2, 2, 10, "5@0:6;");
        x.addStory(1, 0, 5);
        x.make();
        piece(x, 0, 0, 0, 1, 0, 6, 0, 1);
        due("another column", x.wasMoved(0), 1);
        NewspaperMakeup y = made(3, 2, 10, "1@0:10;5@0:9,8,8;");
        piece(y, 1, 2, 2, 0, 0);
        y.addStory(1, 2, 2);
        y.make();
        piece(y, 1, 0, 0, 1, 0);
        piece(y, 1, 1, 1, 0, 0);
        piece(y, 1, 2, 2, 1, 0);
        due("another column of the last piece", y.wasMoved(1), 1);
    }

    private static void movedByTop() {
        checks.sentence("or another page, column, top or first paragraph of one of them)");
        NewspaperMakeup x = made(2, 1, 10, "5@0:6;");
        x.addStory(1, 0, 1);
        x.make();
        piece(x, 0, 0, 0, 0, 1, 6, 0, 1);
        due("one line below", x.wasMoved(0), 1);
        NewspaperMakeup y = made(3, 1, 10, "5@0:9,8,8;");
        y.addStory(1, 2, 1);
        y.make();
        piece(y, 0, 1, 1, 0, 0);
        piece(y, 0, 2, 2, 0, 1);
        due("another top of the last piece", y.wasMoved(0), 1);
    }

    private static void movedByFirstParagraph() {
        checks.sentence("or another page, column, top or first paragraph of one of them)");
        NewspaperMakeup x = made(2, 1, 10, "1@0:3,3,3,3;");
        piece(x, 0, 1, 1, 0, 0, 4, 3, 1);
        x.setParagraph(0, 2, 4);
        x.make();
        piece(x, 0, 1, 1, 0, 0, 8, 2, 2);
        due("of the second piece", x.wasMoved(0), 1);
        NewspaperMakeup y = made(3, 1, 10, "1@0:9,4,4,5;");
        piece(y, 0, 1, 1, 0, 0, 10, 1, 2);
        piece(y, 0, 2, 2, 0, 0, 6, 3, 1);
        y.setParagraph(0, 2, 5);
        y.setParagraph(0, 3, 4);
        y.make();
        piece(y, 0, 1, 1, 0, 0, 6, 1, 1);
        piece(y, 0, 2, 2, 0, 0, 10, 2, 2);
        due("of the third piece", y.wasMoved(0), 1);
    }

    private static void notMoved() {
        checks.sentence("A story is moved in an edition if it is printed in it and in the edition "
                + "before, with other pieces");
        NewspaperMakeup x = made(3, 1, 10, "1@0:9,8,5;");
        x.make();
        due("kept", x.wasMoved(0), 0);
        x.setHome(0, 0);
        x.make();
        due("placed anew at the same places", x.wasMoved(0), 0);
        x.setParagraph(0, 2, 4);
        x.make();
        due("fewer lines of the last piece", x.wasMoved(0), 0);
        x.addParagraph(0, 1);
        x.make();
        due("more paragraphs of the last piece", x.piece(0, 2, 5), 2);
        due("more paragraphs of the last piece", x.wasMoved(0), 0);
        x.setParagraph(0, 0, 7);
        x.make();
        due("fewer lines of the first piece", x.piece(0, 0, 3), 8);
        due("fewer lines of the first piece", x.wasMoved(0), 0);
        x.setPages(5, 4, 10);
        x.make();
        due("on more pages, at the same places", x.wasMoved(0), 0);
        due("none", x.edition(2), 0);
    }

    private static void notMovedAnyMore() {
        checks.sentence("A story is moved in an edition if it is printed in it");
        NewspaperMakeup x = new NewspaperMakeup();
        for (int story = 0; story < 12; story++) {
            x.addStory(1, 0, 1);
        }
        x.make();
        for (int story = 0; story < 12; story++) {
            x.setHome(story, 1);
        }
        x.make();
        due("all moved", x.edition(2), 12);
        for (int story = 0; story < 12; story++) {
            x.kill(story);
        }
        due("none would be moved", x.next(1), 0);
        x.make();
        due("killed: none is moved", x.edition(2), 0);
    }

    /** The last story with the last of its paragraphs and pieces, on the last lines. */
    private static void twelfthStory() {
        checks.sentence("In an edition, a story is printed in 1 to 3 pieces");
        NewspaperMakeup x = new NewspaperMakeup();
        x.setPages(3, 1, 10);
        for (int story = 0; story < 12; story++) {
            x.addStory(story == 11 ? 1 : 2, 0, 3);
        }
        for (int lines : new int[] {3, 3, 4, 4, 2, 3, 4}) {
            x.addParagraph(11, lines);
        }
        for (int edition = 1; edition <= 2; edition++) {
            due("all others are held over", x.make(), 11);
            piece(x, 11, 0, 0, 0, 0, 10, 0, 3, 1, NONE);
            piece(x, 11, 1, 1, 0, 0, 10, 3, 2, 2, 0);
            piece(x, 11, 2, 2, 0, 0, 10, 5, 3, NONE, 1);
            due("no fourth piece", x.piece(11, 3, 0), NONE);
            due("not moved", x.wasMoved(11), 0);
            for (int page = 0; page < 3; page++) {
                due("full", x.longestGap(page), 0);
                due("first line", x.at(page, 0, 0), 11);
                due("last line", x.at(page, 0, 9), 11);
            }
        }
        due("the eighth paragraph", x.setParagraph(11, 7, 0), 4);
        due("seven", x.story(11, 2), 7);
        x.make();
        piece(x, 11, 2, 2, 0, 0, 6, 5, 2, NONE, 1);
        x.undo();
        due("the eighth paragraph", x.undo(), 6 - 2);
        due("is there again", x.paragraph(11, 7), 4);
        due("the first paragraph", x.setParagraph(11, 0, 0), 3);
        x.setHome(11, 1);
        x.make();
        due("moved", x.wasMoved(11), 1);
        due("moved", x.edition(2), 1);
        x.undo();
        due("not moved", x.wasMoved(11), 0);
    }
}

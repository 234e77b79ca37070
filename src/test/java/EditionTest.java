/** Promises 16 to 22: editions, by the rules (a) to (d), and the questions about the latest one. */
final class EditionTest {
    private static final int INVALID = NewspaperMakeup.INVALID_ARGUMENT;
    private static final int STATE = NewspaperMakeup.ILLEGAL_STATE;
    private static final int NONE = NewspaperMakeup.NONE;
    private static final int MIN = Integer.MIN_VALUE;
    private static final int MAX = Integer.MAX_VALUE;

    private static final Checks checks = new Checks();

    private static void due(String call, long got, long want) {
        checks.due(call, got, want);
    }

    public static void main(String[] args) {
        noEdition();
        wrongArguments();
        wholeStories();
        fullColumn();
        twoPieces();
        pagesInTurn();
        threePieces();
        mostParagraphs();
        heldOver();
        restByALine();
        stays();
        ranksDoNotCount();
        changes();
        pushedAway();
        partlyPushedAway();
        firstGapInside();
        moved();
        movedByFirstParagraph();
        latestEditionStays();
        lastStory();
        checks.finish("EditionTest");
    }

    /** Checks where a piece is, what it takes, and which paragraphs it has. */
    private static void piece(NewspaperMakeup x, int story, int piece, int... want) {
        for (int what = 0; what < want.length; what++) {
            due("piece " + story + " " + piece + " " + what, x.piece(story, piece, what),
                    want[what]);
        }
    }

    private static void edition(NewspaperMakeup x, int... want) {
        for (int what = 0; what < want.length; what++) {
            due("edition " + what, x.edition(what), want[what]);
        }
    }

    private static void noEdition() {
        NewspaperMakeup x = new NewspaperMakeup();
        x.addStory(1, 0, 1);
        due("edition", x.edition(0), STATE);
        due("edition: INVALID goes first", x.edition(6), INVALID);
        due("pieces", x.pieces(0), STATE);
        due("pieces: INVALID goes first", x.pieces(1), INVALID);
        due("piece", x.piece(0, 0, 0), STATE);
        due("piece: INVALID goes first", x.piece(0, -1, 0), INVALID);
        due("at", x.at(0, 0, 0), STATE);
        due("at: STATE goes first", x.at(-1, 0, 0), STATE);
        due("longestGap", x.longestGap(0), STATE);
        due("longestGap: STATE goes first", x.longestGap(-1), STATE);
        due("wasMoved", x.wasMoved(0), STATE);
        due("wasMoved: INVALID goes first", x.wasMoved(1), INVALID);
    }

    private static void wrongArguments() {
        NewspaperMakeup x = Checks.loaded(3, 2, 10, "1@0:5;");
        due("make", x.make(), 0);
        for (int wrong : new int[] {-1, 6, MIN, MAX}) {
            due("edition", x.edition(wrong), INVALID);
        }
        for (int wrong : new int[] {-1, 1, MIN, MAX}) {
            due("pieces", x.pieces(wrong), INVALID);
            due("piece", x.piece(wrong, 0, 0), INVALID);
            due("wasMoved", x.wasMoved(wrong), INVALID);
        }
        due("piece -1", x.piece(0, -1, 0), INVALID);
        due("what -1", x.piece(0, 0, -1), INVALID);
        due("what 8", x.piece(0, 0, 8), INVALID);
        due("what 8 of no piece", x.piece(0, 7, 8), INVALID);
        due("piece 1", x.piece(0, 1, 0), NONE);
        due("piece MAX", x.piece(0, MAX, 0), NONE);
        int[][] outside = {{-1, 0, 0}, {3, 0, 0}, {0, -1, 0}, {0, 2, 0}, {0, 0, -1}, {0, 0, 10},
            {MAX, 0, 0}, {0, MIN, 0}, {0, 0, MAX}};
        for (int[] o : outside) {
            due("at", x.at(o[0], o[1], o[2]), INVALID);
        }
        due("last line", x.at(2, 1, 9), NONE);
        due("longestGap -1", x.longestGap(-1), INVALID);
        due("longestGap 3", x.longestGap(3), INVALID);
        due("longestGap 2", x.longestGap(2), 10);
    }

    private static void wholeStories() {
        NewspaperMakeup x = Checks.loaded(2, 2, 10, "3@0:4;1@0:3,3;2@0:5;2@1:10;");
        due("make", x.make(), 0);
        piece(x, 1, 0, 0, 0, 0, 6, 0, 2, NONE, NONE);
        piece(x, 2, 0, 0, 1, 0, 5, 0, 1, NONE, NONE);
        // The gap of four lines in column 0 goes before the longer one in column 1.
        piece(x, 0, 0, 0, 0, 6, 4, 0, 1, NONE, NONE);
        piece(x, 3, 0, 1, 0, 0, 10, 0, 1, NONE, NONE);
        edition(x, 4, 0, 0, 4, 0, 15);
        due("at", x.at(0, 0, 5), 1);
        due("at", x.at(0, 0, 6), 0);
        due("at", x.at(0, 0, 9), 0);
        due("at", x.at(0, 1, 4), 2);
        due("at", x.at(0, 1, 5), NONE);
        due("at", x.at(1, 0, 0), 3);
        due("gap", x.longestGap(0), 5);
        due("gap", x.longestGap(1), 10);
        due("pieces", x.pieces(3), 1);
    }

    private static void fullColumn() {
        NewspaperMakeup x = Checks.loaded(2, 1, 60, "1@0:30,30;2@1:30,29;");
        due("make", x.make(), 0);
        due("full", x.longestGap(0), 0);
        due("one line", x.longestGap(1), 1);
        due("last line", x.at(0, 0, 59), 0);
        due("last line", x.at(1, 0, 59), NONE);
        due("edition 5", x.edition(5), 1);
        // A story that is longer than a column cannot stand in one piece.
        NewspaperMakeup y = Checks.loaded(5, 4, 60, "1@0:30,30,30,30,30,30,30,30;");
        due("too long", y.make(), 1);
        y.setParagraph(0, 7, 0);
        y.setParagraph(0, 6, 0);
        y.setParagraph(0, 5, 0);
        y.setParagraph(0, 4, 0);
        y.setParagraph(0, 3, 0);
        due("one paragraph and its jump line on each page", y.make(), 0);
        due("pieces", y.pieces(0), 3);
    }

    private static void twoPieces() {
        NewspaperMakeup x = Checks.loaded(3, 1, 10, "1@1:4,4,4;");
        due("make", x.make(), 0);
        piece(x, 0, 0, 1, 0, 0, 9, 0, 2, 2, NONE);
        piece(x, 0, 1, 2, 0, 0, 5, 2, 1, NONE, 1);
        due("pieces", x.pieces(0), 2);
        due("no third", x.piece(0, 2, 6), NONE);
        edition(x, 1, 0, 0, 2, 2, 16);
        due("jump line", x.at(1, 0, 8), 0);
        due("behind it", x.at(1, 0, 9), NONE);
        due("jump line", x.at(2, 0, 0), 0);
        due("gap", x.longestGap(1), 1);
        due("gap", x.longestGap(2), 5);
        // With a tenth line for the jump line the first piece has exactly room.
        x.setParagraph(0, 1, 5);
        x.make();
        piece(x, 0, 0, 1, 0, 0, 10, 0, 2, 2, NONE);
        x.setParagraph(0, 1, 6);
        x.make();
        piece(x, 0, 0, 1, 0, 0, 5, 0, 1, 0 + 2, NONE);
        due("no room for 6 + 4 and a jump line", x.pieces(0), 3);
    }

    private static void pagesInTurn() {
        // The home page is 1 of 4; the rest goes to 2, then 3, then 0, and never to 1.
        NewspaperMakeup x = Checks.loaded(4, 2, 10, "9@1:9,9;");
        x.make();
        due("page 2", x.piece(0, 1, 0), 2);
        due("from", x.piece(0, 1, 7), 1);
        Checks.type(x, "1@2:10;1@2:1;");
        x.load();
        x.make();
        due("page 2, column 1", x.piece(0, 1, 0), 3);
        Checks.type(x, "1@3:1;1@3:10;");
        x.load();
        x.make();
        due("page 0", x.piece(0, 1, 0), 0);
        due("page 1 is never its second", x.at(1, 1, 0), NONE);
        x.addStory(1, 0, 1);
        x.addStory(1, 0, 10);
        due("no page left", x.make(), 1);
        due("page 1 is never its second", x.pieces(0), 0);
    }

    private static void threePieces() {
        NewspaperMakeup x = Checks.loaded(3, 1, 10, "1@2:5,5,5,2,2;");
        due("make", x.make(), 0);
        piece(x, 0, 0, 2, 0, 0, 6, 0, 1, 0, NONE);
        piece(x, 0, 1, 0, 0, 0, 7, 1, 1, 1, 2);
        piece(x, 0, 2, 1, 0, 0, 10, 2, 3, NONE, 0);
        edition(x, 1, 0, 0, 3, 4, 7);
        due("page 1 is full", x.longestGap(1), 0);
        x.setParagraph(0, 4, 3);
        due("one line too many", x.make(), 1);
        edition(x, 0, 1, 0, 0, 0, 30);
        NewspaperMakeup y = Checks.loaded(5, 1, 10, "1@0:8,8,8;2@4:8,8,8,8;");
        due("never four pieces", y.make(), 1);
        due("three pieces", y.pieces(0), 3);
        y.kill(0);
        due("never four pieces", y.make(), 1);
    }

    private static void mostParagraphs() {
        // The longest second piece counts, though its page comes last: page 1 has 6 lines, page 2 10.
        NewspaperMakeup x = Checks.loaded(4, 1, 10, "5@0:9,4,4,7;1@1:4;");
        due("make", x.make(), 0);
        piece(x, 0, 0, 0, 0, 0, 10, 0, 1, 2, NONE);
        piece(x, 0, 1, 2, 0, 0, 10, 1, 2, 3, 0);
        piece(x, 0, 2, 3, 0, 0, 8, 3, 1, NONE, 2);
        // The third piece goes through the pages from the home page again: to page 1 here.
        x.setParagraph(0, 3, 5);
        due("make", x.make(), 0);
        piece(x, 0, 1, 2, 0, 0, 10, 1, 2, 1, 0);
        piece(x, 0, 2, 1, 0, 4, 6, 3, 1, NONE, 2);
    }

    private static void heldOver() {
        NewspaperMakeup x = Checks.loaded(2, 1, 10, "1@0:11;2@0:10,1;3@0:1,11;4@1:9,2;5@0:6,6;");
        due("make", x.make(), 4);
        due("one paragraph", x.pieces(0), 0);
        due("no room for a jump line", x.pieces(1), 0);
        due("no room for the rest", x.pieces(2), 0);
        due("two pieces", x.pieces(3), 2);
        due("page 0 holds its rest", x.piece(3, 1, 0), 0);
        due("page 1 is full", x.pieces(4), 0);
        edition(x, 1, 4, 0, 2, 2, 7);
        due("no piece", x.piece(0, 0, 0), NONE);
        due("no piece", x.piece(0, 0, 7), NONE);
        due("not printed", x.wasMoved(0), NONE);
        due("nothing of it is placed", x.at(0, 0, 3), NONE);
        x.addStory(1, 0, 1);
        due("not there then", x.pieces(5), NONE);
        due("not there then", x.piece(5, 0, 0), NONE);
        due("not there then", x.wasMoved(5), NONE);
        x.kill(3);
        due("there then", x.pieces(3), 2);
        x.make();
        due("killed", x.pieces(3), NONE);
        due("killed", x.piece(3, 0, 0), NONE);
        due("killed", x.wasMoved(3), NONE);
    }

    private static void restByALine() {
        // One line decides over the rest, and with it over the whole story.
        NewspaperMakeup x = Checks.loaded(2, 1, 20, "5@0:9,2,9,9;1@0:7;1@1:2;");
        due("make", x.make(), 1);
        due("13 lines hold 9 + 2 and a jump line, 18 the rest but not 19", x.pieces(0), 0);
        NewspaperMakeup y = Checks.loaded(2, 1, 20, "5@0:9,2,9,8;1@0:7;1@1:2;");
        due("make", y.make(), 0);
        piece(y, 0, 1, 1, 0, 2, 18, 2, 2, NONE, 0);
    }

    private static void stays() {
        NewspaperMakeup x = Checks.loaded(2, 1, 20, "1@0:4;2@0:5;3@0:6;");
        x.make();
        x.kill(0);
        x.make();
        due("stays below the new gap", x.piece(1, 0, 2), 4);
        due("stays below the new gap", x.piece(2, 0, 2), 9);
        edition(x, 2, 0, 0, 2, 0, 29);
        due("the gap", x.longestGap(0), 5);
        due("the gap", x.at(0, 0, 3), NONE);
        x.setHome(1, 0);
        x.make();
        due("placed anew in the same place: the gap above has 9 lines", x.piece(1, 0, 2), 0);
        due("moved", x.wasMoved(1), 1);
    }

    private static void ranksDoNotCount() {
        NewspaperMakeup x = Checks.loaded(2, 1, 20, "1@0:4;2@0:5;");
        x.make();
        x.setRank(1, 1);
        x.setRank(0, 50);
        x.make();
        due("stays", x.piece(1, 0, 2), 4);
        due("stays", x.piece(0, 0, 2), 0);
        due("edition 2", x.edition(2), 0);
    }

    /** Story 1 stands below story 0; with story 0 gone it moves to the top only if it is changed. */
    private static NewspaperMakeup belowAGap() {
        NewspaperMakeup x = Checks.loaded(2, 1, 20, "1@0:9;2@0:5,2;");
        x.make();
        x.kill(0);
        return x;
    }

    private static void changes() {
        NewspaperMakeup x = belowAGap();
        x.make();
        due("unchanged", x.piece(1, 0, 2), 9);
        x = belowAGap();
        x.setHome(1, 0);
        x.make();
        due("same home page", x.piece(1, 0, 2), 0);
        x = belowAGap();
        x.setParagraph(1, 1, 2);
        x.make();
        due("same length", x.piece(1, 0, 2), 0);
        x = belowAGap();
        x.setParagraph(1, 1, 0);
        x.make();
        due("removed", x.piece(1, 0, 2), 0);
        x = belowAGap();
        x.addParagraph(1, 1);
        x.make();
        due("added", x.piece(1, 0, 2), 0);
        x = belowAGap();
        x.kill(1);
        x.revive(1);
        x.make();
        due("killed and revived", x.piece(1, 0, 2), 0);
        due("moved all the same", x.wasMoved(1), 1);
        x = belowAGap();
        x.setPages(2, 1, 20);
        x.make();
        due("same pages", x.piece(1, 0, 2), 0);
        x = Checks.loaded(2, 1, 20, "2@0:5;1@0:9;");
        x.make();
        x.setHome(0, 0);
        x.make();
        x.kill(1);
        x.make();
        due("changed before the edition before", x.piece(0, 0, 2), 9);
        x.setPages(2, 1, 20);
        x.make();
        due("story 0, same pages", x.piece(0, 0, 2), 0);
        x = belowAGap();
        x.setHome(1, 7);
        x.setParagraph(1, 1, 31);
        x.make();
        due("calls that failed", x.piece(1, 0, 2), 9);
        x.make();
        x.setHome(1, 0);
        x.make();
        x.undo();
        x.undo();
        x.make();
        due("undone", x.piece(1, 0, 2), 9);
    }

    private static void pushedAway() {
        NewspaperMakeup x = Checks.loaded(2, 1, 10, "5@0:6;");
        x.make();
        x.addStory(1, 0, 3);
        due("make", x.make(), 0);
        due("the new one goes ahead", x.piece(1, 0, 2), 0);
        due("pushed down", x.piece(0, 0, 2), 3);
        due("moved", x.wasMoved(0), 1);
        due("new", x.wasMoved(1), 0);
        edition(x, 2, 0, 1, 2, 0, 11);
        x.kill(0);
        x.make();
        edition(x, 1, 0, 0, 1, 0, 17);
        x.undo();
        x.undo();
        x.addStory(1, 0, 1);
        due("room below", x.make(), 0);
        due("still at the same place", x.piece(0, 0, 2), 4);
        x.addStory(1, 0, 1);
        due("held over", x.make(), 1);
        due("held over", x.pieces(0), 0);
        x.kill(3);
        due("printed, but not in the edition before", x.make(), 0);
        due("not moved", x.wasMoved(0), 0);
    }

    private static void partlyPushedAway() {
        // One piece of two is pushed away: both are placed anew.
        NewspaperMakeup x = Checks.loaded(3, 1, 10, "9@0:3;5@0:6,6;");
        x.make();
        piece(x, 1, 0, 0, 0, 0, 7, 0, 1, 1, NONE);
        piece(x, 1, 1, 1, 0, 0, 7, 1, 1, NONE, 0);
        piece(x, 0, 0, 0, 0, 7, 3);
        x.addStory(1, 1, 5);
        due("make", x.make(), 0);
        piece(x, 1, 0, 0, 0, 0, 7, 0, 1, 2, NONE);
        piece(x, 1, 1, 2, 0, 0, 7, 1, 1, NONE, 0);
        due("moved", x.wasMoved(1), 1);
        due("not moved", x.wasMoved(0), 0);
    }

    private static void firstGapInside() {
        NewspaperMakeup x = Checks.loaded(2, 2, 20, "1@0:3;1@0:4;1@0:5;1@0:6;1@0:9;");
        x.make();
        x.kill(0);
        x.kill(2);
        x.make();
        due("gap", x.longestGap(0), 11);
        x.addStory(9, 0, 4);
        x.addStory(9, 0, 3);
        x.addStory(9, 0, 6);
        due("make", x.make(), 0);
        piece(x, 5, 0, 0, 0, 7, 4);
        piece(x, 6, 0, 0, 0, 0, 3);
        piece(x, 7, 0, 0, 1, 9, 6);
        due("a gap of one line", x.at(0, 0, 11), NONE);
        due("kept between them", x.at(0, 0, 3), 1);
    }

    private static void moved() {
        NewspaperMakeup x = Checks.loaded(3, 2, 10, "1@0:4;");
        x.make();
        due("first edition", x.wasMoved(0), 0);
        x.setHome(0, 1);
        x.make();
        due("another page", x.wasMoved(0), 1);
        x.make();
        due("stays", x.wasMoved(0), 0);
        x.addStory(1, 1, 7);
        x.setRank(0, 2);
        x.make();
        due("another column", x.wasMoved(0), 1);
        due("another column", x.piece(0, 0, 1), 1);
        x.setParagraph(0, 0, 6);
        x.make();
        due("longer at the same place", x.wasMoved(0), 0);
        due("longer", x.piece(0, 0, 3), 6);
        x.addParagraph(0, 6);
        x.make();
        due("another number of pieces", x.wasMoved(0), 1);
        due("edition", x.edition(2), 1);
        due("the other", x.wasMoved(1), 0);
    }

    private static void movedByFirstParagraph() {
        NewspaperMakeup x = Checks.loaded(2, 1, 10, "1@0:3,3,3,3;");
        x.make();
        piece(x, 0, 0, 0, 0, 0, 10, 0, 3);
        piece(x, 0, 1, 1, 0, 0, 4, 3, 1);
        x.setParagraph(0, 2, 4);
        x.make();
        piece(x, 0, 0, 0, 0, 0, 7, 0, 2);
        piece(x, 0, 1, 1, 0, 0, 8, 2, 2);
        due("another first paragraph", x.wasMoved(0), 1);
        x.setParagraph(0, 3, 2);
        x.make();
        due("the same first paragraphs", x.wasMoved(0), 0);
        x.addParagraph(0, 1);
        x.make();
        due("one paragraph more at the end", x.wasMoved(0), 0);
        due("one paragraph more at the end", x.piece(0, 1, 5), 3);
    }

    /** The twelfth story with its eight paragraphs and three pieces: the last place of every row. */
    private static void lastStory() {
        NewspaperMakeup x = new NewspaperMakeup();
        x.setPages(5, 4, 14);
        for (int story = 0; story < 12; story++) {
            x.addStory(2, 4, 4);
            for (int i = 1; i < 8; i++) {
                x.addParagraph(story, 4);
            }
        }
        x.setRank(11, 1);
        due("four columns of page 4 for the first pieces", x.make(), 8);
        piece(x, 11, 0, 4, 0, 0, 13, 0, 3, 0, NONE);
        piece(x, 11, 1, 0, 0, 0, 14, 3, 3, 1, 4);
        piece(x, 11, 2, 1, 0, 0, 9, 6, 2, NONE, 0);
        due("all stay", x.make(), 8);
        due("page of no fourth piece", x.piece(11, 3, 0), NONE);
        edition(x, 4, 8, 0, 12, 16, 5 * 4 * 14 - 4 * 36);
        due("eight paragraphs", x.addParagraph(11, 1), NewspaperMakeup.CAPACITY_EXCEEDED);
        due("remove the last paragraph", x.setParagraph(11, 7, 0), 4);
        due("remove the first paragraph", x.setParagraph(11, 0, 0), 4);
        x.make();
        piece(x, 11, 1, 0, 0, 0, 13, 3, 3, NONE, 4);
    }

    private static void latestEditionStays() {
        NewspaperMakeup x = Checks.loaded(4, 2, 20, "1@1:9;");
        x.make();
        x.setPages(2, 1, 10);
        x.setParagraph(0, 0, 3);
        x.setHome(0, 0);
        x.kill(0);
        edition(x, 1, 0, 0, 1, 0, 151);
        piece(x, 0, 0, 1, 0, 0, 9, 0, 1, NONE, NONE);
        due("at", x.at(1, 0, 8), 0);
        due("at", x.at(3, 1, 19), NONE);
        due("at", x.at(4, 0, 0), INVALID);
        due("gap", x.longestGap(1), 20);
        due("gap", x.longestGap(3), 20);
        due("gap", x.longestGap(4), INVALID);
        due("wasMoved", x.wasMoved(0), 0);
        x.setPages(5, 4, 60);
        due("at", x.at(0, 2, 0), INVALID);
        due("at", x.at(0, 0, 20), INVALID);
        due("gap", x.longestGap(0), 20);
        due("number", x.count(5), 1);
    }
}

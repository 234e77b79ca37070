/** Promises 23 to 25: what an edition would be that was made now; nothing changes. */
final class QuestionsTest {
    private static final int INVALID = NewspaperMakeup.INVALID_ARGUMENT;
    private static final int STATE = NewspaperMakeup.ILLEGAL_STATE;
    private static final int MIN = Integer.MIN_VALUE;
    private static final int MAX = Integer.MAX_VALUE;

    private static final Checks checks = new Checks();

    private static void due(String call, long got, long want) {
        checks.due(call, got, want);
    }

    public static void main(String[] args) {
        next();
        piecesWith();
        piecesWithStays();
        roomFor();
        roomForGaps();
        nothingChanges();
        checks.finish("QuestionsTest");
    }

    private static void next() {
        NewspaperMakeup x = new NewspaperMakeup();
        due("held over", x.next(0), 0);
        due("moved", x.next(1), 0);
        due("free", x.next(2), 180);
        for (int wrong : new int[] {-1, 3, MIN, MAX}) {
            due("what", x.next(wrong), INVALID);
        }
        x = Checks.loaded(2, 1, 10, "5@0:6;");
        x.make();
        x.addStory(1, 0, 3);
        due("moved", x.next(1), 1);
        due("held over", x.next(0), 0);
        due("free", x.next(2), 11);
        x.addStory(1, 0, 2);
        due("held over", x.next(0), 1);
        due("moved", x.next(1), 0);
        due("free", x.next(2), 15);
        x.setPages(3, 2, 20);
        due("free on other pages", x.next(2), 109);
        due("the latest one stays", x.edition(5), 14);
        due("its gap, too", x.longestGap(0), 4);
    }

    private static void piecesWith() {
        NewspaperMakeup x = Checks.loaded(2, 1, 10, "1@0:6;2@0:3,3;3@0:7;");
        due("as it is", x.piecesWith(0, 1), 1);
        due("two pieces", x.piecesWith(1, 2), 2);
        due("ahead", x.piecesWith(2, 1), 0);
        due("ahead of all others", x.piecesWith(1, 1), 2);
        x.setRank(0, 2);
        due("the lower number goes ahead", x.piecesWith(1, 2), 2);
        due("ahead of all others", x.piecesWith(1, 1), 1);
        due("first", x.piecesWith(2, 1), 1);
        due("last", x.piecesWith(0, 99), 0);
        due("rank 0", x.piecesWith(0, 0), INVALID);
        due("rank 100", x.piecesWith(0, 100), INVALID);
        due("story 3", x.piecesWith(3, 1), INVALID);
        due("story -1", x.piecesWith(-1, 1), INVALID);
        x.kill(0);
        due("killed", x.piecesWith(0, 1), STATE);
        due("INVALID goes first", x.piecesWith(0, 0), INVALID);
        due("others", x.piecesWith(2, 99), 0);
        due("others", x.piecesWith(2, 1), 1);
    }

    private static void piecesWithStays() {
        // With a lower rank the story still keeps its pieces, which the others leave free.
        NewspaperMakeup x = Checks.loaded(2, 1, 10, "1@0:2,2;2@0:6;");
        x.make();
        due("stays", x.piecesWith(0, 99), 1);
        due("stays", x.piecesWith(1, 1), 1);
        x.setHome(1, 0);
        due("the other one is placed first, at the same place", x.piecesWith(0, 99), 0 + 1);
        x.setParagraph(1, 0, 7);
        due("and pushes it away", x.piecesWith(0, 99), 2);
    }

    private static void roomFor() {
        NewspaperMakeup x = Checks.loaded(2, 1, 10, "1@0:4;");
        due("9 lines on the other page", x.roomFor(0), 9);
        x.setParagraph(0, 0, 9);
        due("9 lines on the other page", x.roomFor(0), 9);
        x.setParagraph(0, 0, 10);
        due("no room for a jump line", x.roomFor(0), 0);
        x.setParagraph(0, 0, 30);
        due("held over anyway", x.roomFor(0), 0);
        x.setPages(2, 1, 60);
        due("the greatest", x.roomFor(0), 30);
        due("no story", x.roomFor(1), INVALID);
        due("no story", x.roomFor(-1), INVALID);
        due("no story", x.roomFor(MAX), INVALID);
        x.kill(0);
        due("killed", x.roomFor(0), STATE);
        x = Checks.loaded(2, 1, 30, "1@0:1,1,1,1,1,1,1,1;2@0:1,1,1,1,1,1,1;");
        due("eight paragraphs", x.roomFor(0), STATE);
        due("seven paragraphs", x.roomFor(1), 29);
        x.setPages(2, 1, 10);
        // Story 0 leaves two lines of page 0: one paragraph, then 6 and the new one on page 1.
        due("seven paragraphs", x.roomFor(1), 3);
    }

    private static void roomForGaps() {
        NewspaperMakeup x = Checks.loaded(2, 1, 20, "1@1:12;5@0:3,3,3;");
        due("whole: 20 lines on page 0", x.roomFor(1), 11);
        x.addStory(1, 0, 5);
        due("whole only 6, as two pieces 7: 8 lines on page 1", x.roomFor(1), 7);
        x.addStory(1, 1, 8);
        due("page 1 is full", x.roomFor(1), 6);
        x.setParagraph(1, 0, 8);
        due("one line", x.roomFor(1), 1);
        x.setParagraph(1, 0, 3);
        x.addStory(1, 0, 6);
        due("9 lines on page 0, no jump", x.roomFor(1), 0);
    }

    private static void nothingChanges() {
        NewspaperMakeup x = Checks.loaded(2, 1, 10, "1@0:4;2@0:3,3;");
        x.make();
        x.setHome(1, 1);
        int saved = x.count(7);
        Checks.type(x, "abc");
        for (int i = 0; i < 3; i++) {
            x.next(i);
            x.piecesWith(1, 1);
            x.roomFor(0);
        }
        due("saved", x.count(7), saved);
        due("text", x.count(6), 3);
        due("edition", x.count(5), 1);
        due("rank", x.story(1, 0), 2);
        due("paragraphs", x.story(0, 2), 1);
        due("lines", x.story(0, 3), 4);
        due("not moved yet", x.wasMoved(1), 0);
        due("still changed", x.next(1), 1);
        x.make();
        due("moved", x.wasMoved(1), 1);
        due("not changed", x.wasMoved(0), 0);
    }
}

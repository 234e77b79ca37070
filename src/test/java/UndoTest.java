/** Promise 26, and what the other calls save for it. */
final class UndoTest {
    private static final int INVALID = NewspaperMakeup.INVALID_ARGUMENT;
    private static final int STATE = NewspaperMakeup.ILLEGAL_STATE;
    private static final int NONE = NewspaperMakeup.NONE;

    private static final Checks checks = new Checks();

    private static void due(String call, long got, long want) {
        checks.due(call, got, want);
    }

    public static void main(String[] args) {
        everyChangeIsUndone();
        sixStates();
        theTextStays();
        editionsAndChanges();
        questionsSaveNothing();
        checks.finish("UndoTest");
    }

    private static void everyChangeIsUndone() {
        NewspaperMakeup x = new NewspaperMakeup();
        due("nothing saved", x.undo(), STATE);
        x.setPages(5, 4, 60);
        due("setPages", x.undo(), 0);
        due("P", x.count(0), 3);
        due("K", x.count(1), 2);
        due("H", x.count(2), 30);
        x.addStory(5, 1, 9);
        due("addStory", x.undo(), 0);
        due("no story", x.story(0, 0), INVALID);
        x.addStory(5, 1, 9);
        x.addParagraph(0, 4);
        x.undo();
        x.undo();
        due("added again", x.addStory(5, 1, 7), 0);
        due("one paragraph", x.story(0, 2), 1);
        x.undo();
        x.addStory(6, 2, 8);
        x.setRank(0, 3);
        due("setRank", x.undo(), 1);
        due("rank", x.story(0, 0), 6);
        x.setHome(0, 0);
        due("setHome", x.undo(), 1);
        due("home", x.story(0, 1), 2);
        x.addParagraph(0, 7);
        due("addParagraph", x.undo(), 1);
        due("paragraphs", x.story(0, 2), 1);
        x.addParagraph(0, 7);
        x.setParagraph(0, 0, 0);
        due("setParagraph", x.undo(), 2);
        due("paragraph 0", x.paragraph(0, 0), 8);
        due("paragraph 1", x.paragraph(0, 1), 7);
        x.kill(0);
        due("kill", x.undo(), 2);
        due("alive", x.story(0, 4), 1);
        x.kill(0);
        x.revive(0);
        due("revive", x.undo(), 3);
        due("killed", x.story(0, 4), 0);
        Checks.type(x, "1@0:1;");
        x.load();
        due("load", x.undo(), 3);
        due("stories", x.count(3), 1);
        x.make();
        due("make", x.undo(), 3);
        due("no edition", x.pieces(0), STATE);
    }

    private static void sixStates() {
        NewspaperMakeup x = new NewspaperMakeup();
        x.addStory(1, 0, 1);
        for (int rank = 2; rank <= 9; rank++) {
            x.setRank(0, rank);
            due("saved", x.count(7), Math.min(6, rank));
        }
        for (int left = 5; left >= 0; left--) {
            due("undo", x.undo(), left);
            due("rank", x.story(0, 0), 3 + left);
        }
        due("the oldest are gone", x.undo(), STATE);
        due("rank", x.story(0, 0), 3);
        x.setRank(0, 50);
        due("saved again", x.count(7), 1);
        due("undo", x.undo(), 0);
        due("rank", x.story(0, 0), 3);
    }

    private static void theTextStays() {
        NewspaperMakeup x = new NewspaperMakeup();
        x.addStory(1, 0, 1);
        Checks.type(x, "1@0:1;");
        due("typing saves nothing", x.count(7), 1);
        due("undo", x.undo(), 0);
        due("text is kept", x.count(6), 6);
        due("load", x.load(), 1);
        due("undo", x.undo(), 0);
        due("text stays empty", x.count(6), 0);
        due("an empty load", x.load(), 0);
        due("saves a state, too", x.count(7), 1);
    }

    private static void editionsAndChanges() {
        NewspaperMakeup x = Checks.loaded(2, 1, 10, "1@0:3;2@0:4;");
        x.make();
        x.kill(0);
        x.make();
        due("second edition", x.count(5), 2);
        due("not there", x.pieces(0), NONE);
        due("undo make", x.undo(), 4);
        due("first edition", x.count(5), 1);
        due("there again", x.pieces(0), 1);
        due("undo kill", x.undo(), 3);
        due("alive again", x.count(4), 2);
        x.kill(0);
        x.kill(1);
        x.revive(1);
        x.make();
        due("was killed: placed anew", x.piece(1, 0, 2), 0);
        due("undo make", x.undo(), 5);
        due("as it was", x.piece(1, 0, 2), 3);
        due("still changed behind undo of make", x.next(1), 1);
        due("undo revive", x.undo(), 4);
        due("undo kill", x.undo(), 3);
        due("not changed any more", x.next(1), 0);
        x.make();
        due("stays", x.piece(1, 0, 2), 3);
    }

    private static void questionsSaveNothing() {
        NewspaperMakeup x = Checks.loaded(2, 1, 10, "2@0:4;1@0:3;");
        int saved = x.count(7);
        x.next(0);
        x.piecesWith(0, 1);
        x.roomFor(0);
        x.story(0, 0);
        x.pieces(0);
        x.clearText();
        x.appendCharacter(32);
        due("saved", x.count(7), saved);
    }
}

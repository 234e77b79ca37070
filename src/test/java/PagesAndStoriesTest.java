/** Promises 1 to 12: a new object, the pages and the stories. */
final class PagesAndStoriesTest {
    private static final int INVALID = NewspaperMakeup.INVALID_ARGUMENT;
    private static final int STATE = NewspaperMakeup.ILLEGAL_STATE;
    private static final int FULL = NewspaperMakeup.CAPACITY_EXCEEDED;
    private static final int NONE = NewspaperMakeup.NONE;
    private static final int MIN = Integer.MIN_VALUE;
    private static final int MAX = Integer.MAX_VALUE;

    private static final Checks checks = new Checks();

    private static void due(String call, long got, long want) {
        checks.due(call, got, want);
    }

    public static void main(String[] args) {
        newObject();
        setPages();
        addStory();
        setRank();
        setHome();
        addParagraph();
        setParagraph();
        killAndRevive();
        storyProperties();
        counts();
        failuresChangeNothing();
        checks.finish("PagesAndStoriesTest");
    }

    private static void newObject() {
        NewspaperMakeup x = new NewspaperMakeup();
        int[] want = {3, 2, 30, 0, 0, 0, 0, 0};
        for (int what = 0; what < want.length; what++) {
            due("new: count " + what, x.count(what), want[what]);
        }
        due("new: edition", x.edition(0), STATE);
        due("new: undo", x.undo(), STATE);
        due("new: clearText", x.clearText(), 0);
        due("new: story", x.story(0, 0), INVALID);
        x.addStory(1, 0, 1);
        due("objects share nothing", new NewspaperMakeup().count(3), 0);
    }

    private static void setPages() {
        NewspaperMakeup x = new NewspaperMakeup();
        due("least", x.setPages(2, 1, 10), 20);
        due("greatest", x.setPages(5, 4, 60), 1200);
        due("count P", x.count(0), 5);
        due("count K", x.count(1), 4);
        due("count H", x.count(2), 60);
        int[][] wrong = {{1, 2, 30}, {6, 2, 30}, {3, 0, 30}, {3, 5, 30}, {3, 2, 9}, {3, 2, 61},
            {MIN, 2, 30}, {MAX, 2, 30}, {3, MAX, 30}, {3, 2, MIN}};
        for (int[] w : wrong) {
            due("wrong pages", x.setPages(w[0], w[1], w[2]), INVALID);
        }
        x.addStory(1, 3, 5);
        due("home page is the last", x.setPages(4, 1, 10), 40);
        due("home page would be gone", x.setPages(3, 1, 10), STATE);
        due("INVALID goes first", x.setPages(3, 1, 9), INVALID);
        x.kill(0);
        due("home page of a killed story", x.setPages(3, 1, 10), STATE);
        due("nothing changed", x.count(0), 4);
        x.setHome(0, 2);
        due("home page moved", x.setPages(3, 1, 10), 30);
    }

    private static void addStory() {
        NewspaperMakeup x = new NewspaperMakeup();
        int[][] wrong = {{0, 0, 1}, {100, 0, 1}, {1, -1, 1}, {1, 3, 1}, {1, 0, 0}, {1, 0, 31},
            {MIN, 0, 1}, {1, MAX, 1}, {1, 0, MAX}};
        for (int[] w : wrong) {
            due("wrong story", x.addStory(w[0], w[1], w[2]), INVALID);
        }
        due("first", x.addStory(1, 0, 1), 0);
        due("greatest", x.addStory(99, 2, 30), 1);
        due("is alive", x.story(1, 4), 1);
        due("one paragraph", x.story(1, 2), 1);
        for (int i = 2; i < 12; i++) {
            due("story " + i, x.addStory(50, 1, 5), i);
        }
        due("thirteenth", x.addStory(50, 1, 5), FULL);
        due("INVALID goes first", x.addStory(0, 1, 5), INVALID);
        due("twelve", x.count(3), 12);
    }

    private static void setRank() {
        NewspaperMakeup x = new NewspaperMakeup();
        due("no story", x.setRank(0, 1), INVALID);
        x.addStory(7, 0, 1);
        due("rank", x.setRank(0, 99), 7);
        due("rank", x.setRank(0, 1), 99);
        due("same rank", x.setRank(0, 1), 1);
        due("rank 0", x.setRank(0, 0), INVALID);
        due("rank 100", x.setRank(0, 100), INVALID);
        due("story -1", x.setRank(-1, 1), INVALID);
        due("story 1", x.setRank(1, 1), INVALID);
        due("rank is", x.story(0, 0), 1);
        x.kill(0);
        due("rank of a killed story", x.setRank(0, 5), 1);
    }

    private static void setHome() {
        NewspaperMakeup x = new NewspaperMakeup();
        due("no story", x.setHome(0, 1), INVALID);
        x.addStory(7, 1, 1);
        due("home", x.setHome(0, 2), 1);
        due("home", x.setHome(0, 0), 2);
        due("home -1", x.setHome(0, -1), INVALID);
        due("home 3", x.setHome(0, 3), INVALID);
        due("story 1", x.setHome(1, 0), INVALID);
        due("story -1", x.setHome(-1, 0), INVALID);
        due("home is", x.story(0, 1), 0);
    }

    private static void addParagraph() {
        NewspaperMakeup x = new NewspaperMakeup();
        due("no story", x.addParagraph(0, 1), INVALID);
        x.addStory(7, 1, 1);
        due("lines 0", x.addParagraph(0, 0), INVALID);
        due("lines 31", x.addParagraph(0, 31), INVALID);
        for (int i = 2; i <= 8; i++) {
            due("paragraph " + i, x.addParagraph(0, 22 + i), i);
        }
        due("ninth", x.addParagraph(0, 1), FULL);
        due("INVALID goes first", x.addParagraph(0, 0), INVALID);
        due("story -1", x.addParagraph(-1, 1), INVALID);
        due("first", x.paragraph(0, 0), 1);
        due("second", x.paragraph(0, 1), 24);
        due("eighth", x.paragraph(0, 7), 30);
        due("no ninth", x.paragraph(0, 8), NONE);
        due("far behind", x.paragraph(0, MAX), NONE);
        due("negative", x.paragraph(0, -1), INVALID);
        due("negative", x.paragraph(0, MIN), INVALID);
        due("no story", x.paragraph(1, 0), INVALID);
        due("all lines", x.story(0, 3), 1 + 24 + 25 + 26 + 27 + 28 + 29 + 30);
    }

    private static void setParagraph() {
        NewspaperMakeup x = Checks.loaded(3, 1, 30, "1@0:1,2,3,4,5,6,7,8;2@1:9;");
        due("change", x.setParagraph(0, 7, 30), 8);
        due("remove the first", x.setParagraph(0, 0, 0), 1);
        due("next moved up", x.paragraph(0, 0), 2);
        due("remove inside", x.setParagraph(0, 2, 0), 4);
        due("before it", x.paragraph(0, 1), 3);
        due("behind it", x.paragraph(0, 2), 5);
        due("last", x.paragraph(0, 5), 30);
        due("none behind", x.paragraph(0, 6), NONE);
        due("none there", x.setParagraph(0, 6, 1), INVALID);
        due("remove the last", x.setParagraph(0, 5, 0), 30);
        due("five left", x.story(0, 2), 5);
        due("other story", x.paragraph(1, 0), 9);
        due("only one", x.setParagraph(1, 0, 0), STATE);
        due("INVALID goes first", x.setParagraph(1, 1, 0), INVALID);
        due("same length", x.setParagraph(1, 0, 9), 9);
        due("lines -1", x.setParagraph(1, 0, -1), INVALID);
        due("lines 31", x.setParagraph(1, 0, 31), INVALID);
        due("paragraph -1", x.setParagraph(1, -1, 1), INVALID);
        due("story 2", x.setParagraph(2, 0, 1), INVALID);
        due("story -1", x.setParagraph(-1, 0, 1), INVALID);
    }

    private static void killAndRevive() {
        NewspaperMakeup x = Checks.loaded(3, 1, 30, "1@0:1;2@1:9;3@2:1;");
        due("kill", x.kill(1), 2);
        due("killed", x.story(1, 4), 0);
        due("again", x.kill(1), STATE);
        due("kill", x.kill(2), 1);
        due("kill", x.kill(0), 0);
        due("alive", x.count(4), 0);
        due("all are there", x.count(3), 3);
        due("revive", x.revive(2), 1);
        due("again", x.revive(2), STATE);
        due("revive", x.revive(1), 2);
        due("alive", x.story(1, 4), 1);
        for (int wrong : new int[] {-1, 3, MIN, MAX}) {
            due("kill nobody", x.kill(wrong), INVALID);
            due("revive nobody", x.revive(wrong), INVALID);
        }
    }

    private static void storyProperties() {
        NewspaperMakeup x = Checks.loaded(3, 1, 30, "5@0:1,30;3@1:9;5@2:1;4@0:7;");
        int[] want = {5, 0, 2, 31, 1, 2};
        for (int what = 0; what < want.length; what++) {
            due("property " + what, x.story(0, what), want[what]);
        }
        due("property -1", x.story(0, -1), INVALID);
        due("property 6", x.story(0, 6), INVALID);
        due("no story", x.story(4, 0), INVALID);
        due("highest rank", x.story(1, 5), 0);
        due("same rank, later", x.story(2, 5), 3);
        x.kill(1);
        due("a killed one does not go ahead", x.story(2, 5), 2);
        due("ahead of a killed one", x.story(1, 5), 0);
        x.setRank(1, 98);
        due("ahead of a killed one", x.story(1, 5), 3);
    }

    private static void counts() {
        NewspaperMakeup x = Checks.loaded(4, 3, 20, "5@0:1;3@1:9;");
        x.kill(0);
        x.make();
        x.make();
        Checks.type(x, "12345");
        int[] want = {4, 3, 20, 2, 1, 2, 5, 5};
        for (int what = 0; what < want.length; what++) {
            due("count " + what, x.count(what), want[what]);
        }
        due("count -1", x.count(-1), INVALID);
        due("count 8", x.count(8), INVALID);
        due("count MAX", x.count(MAX), INVALID);
    }

    private static void failuresChangeNothing() {
        NewspaperMakeup x = Checks.loaded(3, 1, 10, "1@0:5;");
        x.make();
        int saved = x.count(7);
        x.setPages(9, 1, 10);
        x.addStory(1, 7, 1);
        x.setRank(0, 0);
        x.setHome(0, 9);
        x.addParagraph(0, 0);
        x.setParagraph(0, 0, 0);
        x.setParagraph(0, 0, 31);
        x.revive(0);
        x.kill(5);
        due("no state saved", x.count(7), saved);
        due("pages", x.count(0), 3);
        due("stories", x.count(3), 1);
        due("lines", x.story(0, 3), 5);
        due("still unchanged: stays", x.next(1), 0);
    }
}

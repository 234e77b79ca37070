/** The boundaries that "Pages", "Stories" and promises 1 to 12 name, sentence by sentence. */
final class PageAndStoryBoundariesTest {
    private static final int INVALID = NewspaperMakeup.INVALID_ARGUMENT;
    private static final int STATE = NewspaperMakeup.ILLEGAL_STATE;
    private static final int FULL = NewspaperMakeup.CAPACITY_EXCEEDED;
    private static final int NONE = NewspaperMakeup.NONE;

    private static final Checks checks = new Checks();

    private static void due(String call, long got, long want) {
        checks.due(call, got, want);
    }

    public static void main(String[] args) {
        pages();
        columns();
        lines();
        columnsAndLinesFromZero();
        atMostTwelveStories();
        storiesAreNeverRemoved();
        ranks();
        homePages();
        paragraphs();
        aliveOrKilled();
        goesAheadByRank();
        goesAheadByNumber();
        newObject();
        setPagesArguments();
        setPagesReturns();
        setPagesHomePages();
        setPagesChangesAllStories();
        setPagesLeavesTheLatestEdition();
        addStoryArguments();
        addStoryFull();
        addStoryAlive();
        setRankArguments();
        setRankReturns();
        setHomeArguments();
        setHomeReturns();
        setHomeChanges();
        addParagraphArguments();
        addParagraphReturns();
        addParagraphFull();
        addParagraphChanges();
        setParagraphArguments();
        setParagraphReturns();
        setParagraphOnly();
        setParagraphRemoves();
        setParagraphChanges();
        kill();
        killNobody();
        killAgain();
        revive();
        reviveNobody();
        reviveAgain();
        storyArguments();
        storyLines();
        storyAhead();
        paragraphArguments();
        paragraphBehindTheLast();
        countArguments();
        countBounds();
        checks.finish("PageAndStoryBoundariesTest");
    }

    /** A newspaper with so many stories, each with one paragraph of a line. */
    private static NewspaperMakeup withStories(int stories) {
        NewspaperMakeup x = new NewspaperMakeup();
        for (int story = 0; story < stories; story++) {
            x.addStory(50, 0, 1);
        }
        return x;
    }

    /** Story 1 stands below the gap that killed story 0 leaves: only if changed it moves up. */
    private static NewspaperMakeup belowAGap() {
        NewspaperMakeup x = Checks.loaded(2, 1, 20, "1@0:9;2@0:5,2;");
        x.make();
        x.kill(0);
        return x;
    }

    private static void moves(String call, NewspaperMakeup x, int line) {
        x.make();
        due(call, x.piece(1, 0, 2), line);
    }

    // ---- Pages

    private static void pages() {
        checks.sentence("There are P pages, 2 to 5, numbered from 0 (at first 3)");
        NewspaperMakeup x = new NewspaperMakeup();
        due("at first", x.count(0), 3);
        due("page 2 of 3", x.addStory(1, 2, 1), 0);
        due("page 3 of 3", x.addStory(1, 3, 1), INVALID);
        for (int pages = 2; pages <= 5; pages++) {
            NewspaperMakeup y = new NewspaperMakeup();
            due("pages " + pages, y.setPages(pages, 1, 10), pages * 10);
            due("P", y.count(0), pages);
            due("page 0", y.addStory(1, 0, 1), 0);
            due("the last page", y.addStory(1, pages - 1, 1), 1);
            due("behind the last page", y.addStory(1, pages, 1), INVALID);
            due("page -1", y.addStory(1, -1, 1), INVALID);
        }
        due("one page", new NewspaperMakeup().setPages(1, 2, 30), INVALID);
        due("six pages", new NewspaperMakeup().setPages(6, 2, 30), INVALID);
    }

    private static void columns() {
        checks.sentence("each with K columns, 1 to 4 (at first 2)");
        NewspaperMakeup x = new NewspaperMakeup();
        due("at first", x.count(1), 2);
        for (int columns = 1; columns <= 4; columns++) {
            due("columns " + columns, x.setPages(2, columns, 10), 20 * columns);
            due("K", x.count(1), columns);
        }
        due("no column", x.setPages(2, 0, 10), INVALID);
        due("five columns", x.setPages(2, 5, 10), INVALID);
    }

    private static void lines() {
        checks.sentence("of H lines, 10 to 60 (at first 30).");
        NewspaperMakeup x = new NewspaperMakeup();
        due("at first", x.count(2), 30);
        for (int lines = 10; lines <= 60; lines++) {
            due("lines " + lines, x.setPages(2, 1, lines), 2 * lines);
            due("H", x.count(2), lines);
        }
        due("9 lines", x.setPages(2, 1, 9), INVALID);
        due("61 lines", x.setPages(2, 1, 61), INVALID);
    }

    private static void columnsAndLinesFromZero() {
        checks.sentence("The columns of a page are numbered from 0, their lines from 0.");
        int[][] sizes = {{1, 10}, {4, 60}, {2, 30}};
        for (int[] size : sizes) {
            NewspaperMakeup x = new NewspaperMakeup();
            x.setPages(2, size[0], size[1]);
            x.addStory(1, 0, 10);
            x.make();
            due("first column", x.piece(0, 0, 1), 0);
            due("first line", x.piece(0, 0, 2), 0);
            due("first column and line", x.at(0, 0, 0), 0);
            due("column -1", x.at(0, -1, 0), INVALID);
            due("line -1", x.at(0, 0, -1), INVALID);
            due("last column", x.at(1, size[0] - 1, 0), NONE);
            due("behind the last column", x.at(1, size[0], 0), INVALID);
            due("last line", x.at(1, 0, size[1] - 1), NONE);
            due("behind the last line", x.at(1, 0, size[1]), INVALID);
        }
    }

    // ---- Stories

    private static void atMostTwelveStories() {
        checks.sentence("There are at most 12 stories, numbered from 0 in the order in which they "
                + "were added");
        NewspaperMakeup x = new NewspaperMakeup();
        for (int story = 0; story < 12; story++) {
            due("add", x.addStory(99 - story, 0, 1 + story), story);
        }
        due("thirteenth", x.addStory(1, 0, 1), FULL);
        due("stories", x.count(3), 12);
        for (int story = 0; story < 12; story++) {
            due("its rank", x.story(story, 0), 99 - story);
            due("its paragraph", x.paragraph(story, 0), 1 + story);
        }
    }

    private static void storiesAreNeverRemoved() {
        checks.sentence("they are never removed.");
        NewspaperMakeup x = withStories(12);
        for (int story = 0; story < 12; story++) {
            x.kill(story);
        }
        x.make();
        due("none is alive", x.count(4), 0);
        due("all are there", x.count(3), 12);
        due("no room for another one", x.addStory(1, 0, 1), FULL);
        due("story 0", x.story(0, 0), 50);
        due("story 11", x.story(11, 0), 50);
    }

    private static void ranks() {
        checks.sentence("A story has a rank, 1 (the highest) to 99");
        NewspaperMakeup x = new NewspaperMakeup();
        due("rank 0", x.addStory(0, 0, 1), INVALID);
        due("rank 99", x.addStory(99, 0, 1), 0);
        due("rank 1", x.addStory(1, 0, 1), 1);
        due("rank 100", x.addStory(100, 0, 1), INVALID);
        due("the highest: none goes ahead of it", x.story(1, 5), 0);
        due("the lowest: the other one does", x.story(0, 5), 1);
    }

    private static void homePages() {
        checks.sentence("a home page");
        NewspaperMakeup x = new NewspaperMakeup();
        for (int home = 0; home < 3; home++) {
            due("home", x.addStory(1, home, 1), home);
            due("home", x.story(home, 1), home);
        }
    }

    private static void paragraphs() {
        checks.sentence("1 to 8 paragraphs of 1 to 30 lines each");
        NewspaperMakeup x = new NewspaperMakeup();
        due("0 lines", x.addStory(1, 0, 0), INVALID);
        due("31 lines", x.addStory(1, 0, 31), INVALID);
        due("1 line", x.addStory(1, 0, 1), 0);
        due("not fewer than one paragraph", x.setParagraph(0, 0, 0), STATE);
        due("0 lines", x.addParagraph(0, 0), INVALID);
        due("31 lines", x.addParagraph(0, 31), INVALID);
        for (int number = 2; number <= 8; number++) {
            due("30 lines", x.addParagraph(0, 30), number);
        }
        due("not more than eight", x.addParagraph(0, 1), FULL);
        due("eight", x.story(0, 2), 8);
        due("31 lines", x.setParagraph(0, 7, 31), INVALID);
        due("1 line", x.setParagraph(0, 7, 1), 30);
    }

    private static void aliveOrKilled() {
        checks.sentence("it is alive or killed.");
        NewspaperMakeup x = withStories(1);
        due("alive", x.story(0, 4), 1);
        x.kill(0);
        due("killed", x.story(0, 4), 0);
        x.revive(0);
        due("alive", x.story(0, 4), 1);
    }

    private static void goesAheadByRank() {
        checks.sentence("Story s goes ahead of story t if its rank is a smaller number");
        // There is room for one of them.
        NewspaperMakeup x = Checks.loaded(2, 1, 10, "10@0:6;9@0:6;");
        x.make();
        due("9 goes ahead of 10", x.pieces(1), 1);
        due("10 is behind 9", x.pieces(0), 0);
        due("ahead of 10", x.story(0, 5), 1);
        due("ahead of 9", x.story(1, 5), 0);
        NewspaperMakeup y = Checks.loaded(2, 1, 10, "99@0:6;1@0:6;");
        y.make();
        due("1 goes ahead of 99", y.pieces(1), 1);
        due("99 is behind 1", y.pieces(0), 0);
    }

    private static void goesAheadByNumber() {
        checks.sentence("or if the ranks are equal and s is less than t.");
        NewspaperMakeup x = Checks.loaded(2, 1, 10, "7@0:6;7@0:6;");
        x.make();
        due("0 goes ahead of 1", x.pieces(0), 1);
        due("1 is behind 0", x.pieces(1), 0);
        due("ahead of 0", x.story(0, 5), 0);
        due("ahead of 1", x.story(1, 5), 1);
        NewspaperMakeup y = withStories(12);
        for (int story = 0; story < 12; story++) {
            due("those before it, not itself", y.story(story, 5), story);
        }
        x.setRank(0, 8);
        x.setRank(0, 7);
        due("also if the rank came later", x.story(0, 5), 0);
    }

    // ---- Promise 1

    private static void newObject() {
        checks.sentence("Creates a newspaper without stories and editions, with an empty text.");
        NewspaperMakeup x = new NewspaperMakeup();
        due("stories", x.count(3), 0);
        due("story 0", x.story(0, 0), INVALID);
        due("those alive", x.count(4), 0);
        due("edition", x.count(5), 0);
        due("edition", x.edition(0), STATE);
        due("text", x.count(6), 0);
        due("text", x.clearText(), 0);
        due("nothing is saved", x.count(7), 0);
        due("nothing is saved", x.undo(), STATE);
    }

    // ---- Promise 2

    private static void setPagesArguments() {
        checks.sentence("Returns the number of lines of all pages together; INVALID_ARGUMENT if an "
                + "argument is out of range");
        NewspaperMakeup x = new NewspaperMakeup();
        for (int wrong : Checks.outside(2, 5)) {
            due("pages " + wrong, x.setPages(wrong, 4, 60), INVALID);
        }
        for (int wrong : Checks.outside(1, 4)) {
            due("columns " + wrong, x.setPages(5, wrong, 60), INVALID);
        }
        for (int wrong : Checks.outside(10, 60)) {
            due("lines " + wrong, x.setPages(5, 4, wrong), INVALID);
        }
        due("P", x.count(0), 3);
        due("K", x.count(1), 2);
        due("H", x.count(2), 30);
    }

    private static void setPagesReturns() {
        checks.sentence("Returns the number of lines of all pages together");
        NewspaperMakeup x = new NewspaperMakeup();
        due("least", x.setPages(2, 1, 10), 20);
        due("greatest", x.setPages(5, 4, 60), 1200);
        due("between", x.setPages(3, 2, 11), 66);
    }

    private static void setPagesHomePages() {
        checks.sentence("ILLEGAL_STATE if the home page of a story, alive or killed, would not "
                + "exist any more.");
        for (int home = 2; home < 5; home++) {
            NewspaperMakeup x = new NewspaperMakeup();
            x.setPages(5, 1, 10);
            x.addStory(1, 0, 1);
            x.addStory(1, home, 1);
            x.addStory(1, 1, 1);
            due("it is the last page", x.setPages(home + 1, 1, 10), 10 * (home + 1));
            due("it is gone", x.setPages(home, 1, 10), STATE);
            due("P", x.count(0), home + 1);
            x.kill(1);
            due("killed: it is gone", x.setPages(home, 1, 10), STATE);
            due("killed: it is the last page", x.setPages(home + 1, 1, 10), 10 * (home + 1));
            x.setHome(1, home - 1);
            due("killed: it is the last page", x.setPages(home, 1, 10), 10 * home);
        }
        NewspaperMakeup x = new NewspaperMakeup();
        for (int story = 0; story < 12; story++) {
            x.addStory(1, story < 11 ? 0 : 2, 1);
        }
        due("the twelfth story", x.setPages(2, 1, 10), STATE);
        due("no story at all", new NewspaperMakeup().setPages(2, 1, 10), 20);
    }

    private static void setPagesChangesAllStories() {
        checks.sentence("Sets P, K and H. All stories are changed.");
        NewspaperMakeup x = belowAGap();
        x.setPages(2, 1, 20);
        moves("also if the pages are the same", x, 0);
        NewspaperMakeup y = belowAGap();
        y.setPages(3, 4, 60);
        moves("more pages", y, 0);
        // Twelve stories in one column, the first one killed: all others move up.
        NewspaperMakeup z = new NewspaperMakeup();
        z.setPages(2, 1, 12);
        for (int story = 0; story < 12; story++) {
            z.addStory(1, 0, 1);
        }
        z.make();
        z.kill(0);
        due("none moves", z.next(1), 0);
        z.setPages(2, 1, 12);
        due("all move", z.next(1), 11);
    }

    private static void setPagesLeavesTheLatestEdition() {
        checks.sentence("The latest edition stays as it was made.");
        NewspaperMakeup x = Checks.loaded(4, 2, 20, "1@0:20;1@0:5,9;1@0:10,9;");
        x.make();
        x.setPages(2, 1, 10);
        due("free lines", x.edition(5), 160 - 20 - 14);
        due("line 19 of column 0", x.at(0, 0, 19), 0);
        due("column 1", x.at(0, 1, 0), 1);
        due("page 3", x.at(3, 1, 19), NONE);
        due("page 4", x.at(4, 0, 0), INVALID);
        due("pieces", x.pieces(2), 0);
        due("gap", x.longestGap(3), 20);
        due("gap", x.longestGap(0), 6);
    }

    // ---- Promise 3

    private static void addStoryArguments() {
        checks.sentence("Returns its number; INVALID_ARGUMENT if an argument is out of range");
        NewspaperMakeup x = new NewspaperMakeup();
        for (int wrong : Checks.outside(1, 99)) {
            due("rank " + wrong, x.addStory(wrong, 0, 1), INVALID);
        }
        for (int wrong : Checks.outside(0, 2)) {
            due("home " + wrong, x.addStory(1, wrong, 1), INVALID);
        }
        for (int wrong : Checks.outside(1, 30)) {
            due("lines " + wrong, x.addStory(1, 0, wrong), INVALID);
        }
        due("no story", x.count(3), 0);
        due("least", x.addStory(1, 0, 1), 0);
        due("greatest", x.addStory(99, 2, 30), 1);
    }

    private static void addStoryFull() {
        checks.sentence("CAPACITY_EXCEEDED if there are 12 stories.");
        NewspaperMakeup x = withStories(11);
        due("twelfth", x.addStory(1, 0, 1), 11);
        due("thirteenth", x.addStory(1, 0, 1), FULL);
        x.undo();
        due("twelfth again", x.addStory(1, 0, 1), 11);
    }

    private static void addStoryAlive() {
        checks.sentence("Adds a story with one paragraph. It is alive.");
        NewspaperMakeup x = new NewspaperMakeup();
        x.addStory(1, 0, 30);
        x.addParagraph(0, 9);
        x.kill(0);
        x.undo();
        x.undo();
        x.undo();
        due("the number is used again", x.addStory(2, 1, 7), 0);
        due("one paragraph", x.story(0, 2), 1);
        due("its lines", x.story(0, 3), 7);
        due("no second one", x.paragraph(0, 1), NONE);
        due("alive", x.story(0, 4), 1);
    }

    // ---- Promise 4

    private static void setRankArguments() {
        checks.sentence("Returns the previous rank; INVALID_ARGUMENT if there is no such story or "
                + "rank is out of range.");
        for (int stories : new int[] {0, 1, 11, 12}) {
            NewspaperMakeup x = withStories(stories);
            for (int wrong : Checks.outside(0, stories - 1)) {
                due("story " + wrong, x.setRank(wrong, 1), INVALID);
            }
        }
        NewspaperMakeup x = withStories(1);
        for (int wrong : Checks.outside(1, 99)) {
            due("rank " + wrong, x.setRank(0, wrong), INVALID);
        }
        due("the same", x.story(0, 0), 50);
    }

    private static void setRankReturns() {
        checks.sentence("Returns the previous rank");
        NewspaperMakeup x = withStories(12);
        due("least", x.setRank(11, 1), 50);
        due("greatest", x.setRank(11, 99), 1);
        due("the same", x.setRank(11, 99), 99);
        due("the first story", x.setRank(0, 2), 50);
        due("it is", x.story(11, 0), 99);
    }

    // ---- Promise 5

    private static void setHomeArguments() {
        checks.sentence("Returns the previous home page; INVALID_ARGUMENT if there is no such "
                + "story or page.");
        for (int stories : new int[] {0, 1, 11, 12}) {
            NewspaperMakeup x = withStories(stories);
            for (int wrong : Checks.outside(0, stories - 1)) {
                due("story " + wrong, x.setHome(wrong, 0), INVALID);
            }
        }
        for (int pages = 2; pages <= 5; pages++) {
            NewspaperMakeup x = withStories(1);
            x.setPages(pages, 1, 10);
            for (int wrong : Checks.outside(0, pages - 1)) {
                due("home " + wrong, x.setHome(0, wrong), INVALID);
            }
            due("the last page", x.setHome(0, pages - 1), 0);
        }
    }

    private static void setHomeReturns() {
        checks.sentence("Returns the previous home page");
        NewspaperMakeup x = withStories(12);
        due("home", x.setHome(11, 2), 0);
        due("home", x.setHome(11, 0), 2);
        due("home", x.setHome(0, 1), 0);
        due("home", x.story(11, 1), 0);
        due("home", x.story(0, 1), 1);
    }

    private static void setHomeChanges() {
        checks.sentence("The story is changed, also if it is the same page.");
        NewspaperMakeup x = belowAGap();
        moves("not changed", x, 9);
        x.setHome(1, 0);
        moves("same page", x, 0);
        NewspaperMakeup y = belowAGap();
        y.setHome(1, 1);
        y.setHome(1, 0);
        moves("away and back", y, 0);
    }

    // ---- Promise 6

    private static void addParagraphArguments() {
        checks.sentence("Returns the number of its paragraphs then; INVALID_ARGUMENT if there is "
                + "no such story or lines is out of range");
        for (int stories : new int[] {0, 1, 11, 12}) {
            NewspaperMakeup x = withStories(stories);
            for (int wrong : Checks.outside(0, stories - 1)) {
                due("story " + wrong, x.addParagraph(wrong, 1), INVALID);
            }
        }
        NewspaperMakeup x = withStories(1);
        for (int wrong : Checks.outside(1, 30)) {
            due("lines " + wrong, x.addParagraph(0, wrong), INVALID);
        }
        due("one paragraph", x.story(0, 2), 1);
        due("least", x.addParagraph(0, 1), 2);
        due("greatest", x.addParagraph(0, 30), 3);
    }

    private static void addParagraphReturns() {
        checks.sentence("Adds a paragraph at the end of a story.");
        NewspaperMakeup x = withStories(12);
        for (int number = 2; number <= 8; number++) {
            due("paragraphs", x.addParagraph(11, 10 + number), number);
            due("at the end", x.paragraph(11, number - 1), 10 + number);
        }
        due("the first", x.paragraph(11, 0), 1);
        due("another story", x.story(10, 2), 1);
    }

    private static void addParagraphFull() {
        checks.sentence("CAPACITY_EXCEEDED if it has 8 paragraphs.");
        NewspaperMakeup x = withStories(2);
        for (int number = 2; number <= 7; number++) {
            x.addParagraph(0, 1);
        }
        due("eighth", x.addParagraph(0, 1), 8);
        due("ninth", x.addParagraph(0, 1), FULL);
        due("another story", x.addParagraph(1, 1), 2);
        x.setParagraph(0, 3, 0);
        due("eighth again", x.addParagraph(0, 1), 8);
    }

    private static void addParagraphChanges() {
        checks.sentence("Adds a paragraph at the end of a story. The story is changed.");
        NewspaperMakeup x = belowAGap();
        x.addParagraph(1, 1);
        moves("added", x, 0);
        NewspaperMakeup y = belowAGap();
        y.addParagraph(1, 1);
        y.setParagraph(1, 2, 0);
        moves("added and removed", y, 0);
    }

    // ---- Promise 7

    private static void setParagraphArguments() {
        checks.sentence("INVALID_ARGUMENT if there is no such story or paragraph, or lines is out "
                + "of range");
        for (int stories : new int[] {0, 1, 11, 12}) {
            NewspaperMakeup x = withStories(stories);
            for (int wrong : Checks.outside(0, stories - 1)) {
                due("story " + wrong, x.setParagraph(wrong, 0, 1), INVALID);
            }
        }
        NewspaperMakeup x = withStories(2);
        for (int number = 1; number <= 8; number++) {
            for (int wrong : Checks.outside(0, number - 1)) {
                due("paragraph " + wrong, x.setParagraph(0, wrong, 1), INVALID);
            }
            due("the last", x.setParagraph(0, number - 1, 2), 1);
            x.addParagraph(0, 1);
        }
        for (int wrong : Checks.outside(0, 30)) {
            due("lines " + wrong, x.setParagraph(0, 0, wrong), INVALID);
        }
        due("the same", x.paragraph(0, 0), 2);
    }

    private static void setParagraphReturns() {
        checks.sentence("Returns the previous length");
        NewspaperMakeup x = Checks.loaded(3, 1, 30, "1@0:30,1;2@0:5;");
        due("greatest", x.setParagraph(0, 0, 1), 30);
        due("least", x.setParagraph(0, 1, 30), 1);
        due("the same", x.setParagraph(0, 1, 30), 30);
        due("removed", x.setParagraph(0, 0, 0), 1);
        due("the other", x.setParagraph(0, 0, 7), 30);
        due("another story", x.paragraph(1, 0), 5);
    }

    private static void setParagraphOnly() {
        checks.sentence("ILLEGAL_STATE if the only paragraph would be removed.");
        NewspaperMakeup x = Checks.loaded(3, 1, 30, "1@0:3,4;2@0:5;");
        due("one of two", x.setParagraph(0, 0, 0), 3);
        due("the only one", x.setParagraph(0, 0, 0), STATE);
        due("the only one", x.setParagraph(1, 0, 0), STATE);
        due("is still there", x.paragraph(0, 0), 4);
        due("it can be set", x.setParagraph(0, 0, 1), 4);
    }

    private static void setParagraphRemoves() {
        checks.sentence("Sets the length of a paragraph, or removes it.");
        int[][] left = {{2, 3, 4, 5, 6, 7, 8}, {1, 2, 3, 5, 6, 7, 8}, {1, 2, 3, 4, 5, 6, 7}};
        int[] removed = {0, 3, 7};
        for (int i = 0; i < removed.length; i++) {
            NewspaperMakeup x = Checks.loaded(3, 1, 30, "1@0:1,2,3,4,5,6,7,8;2@0:9,9;");
            due("remove", x.setParagraph(0, removed[i], 0), removed[i] + 1);
            for (int paragraph = 0; paragraph < 7; paragraph++) {
                due("left", x.paragraph(0, paragraph), left[i][paragraph]);
            }
            due("no eighth", x.paragraph(0, 7), NONE);
            due("another story", x.story(1, 3), 18);
        }
        NewspaperMakeup x = Checks.loaded(3, 1, 30, "1@0:3,4;");
        due("1 line does not remove it", x.setParagraph(0, 1, 1), 4);
        due("two", x.story(0, 2), 2);
    }

    private static void setParagraphChanges() {
        checks.sentence("The story is changed, also if the length is the same.");
        NewspaperMakeup x = belowAGap();
        x.setParagraph(1, 1, 2);
        moves("same length", x, 0);
        NewspaperMakeup y = belowAGap();
        y.setParagraph(1, 1, 0);
        moves("removed", y, 0);
        NewspaperMakeup z = belowAGap();
        z.setParagraph(1, 0, 6);
        moves("longer", z, 0);
    }

    // ---- Promises 8 and 9

    private static void kill() {
        checks.sentence("Returns the number of stories that are alive then; INVALID_ARGUMENT if "
                + "there is no such story; ILLEGAL_STATE if it is killed already.");
        NewspaperMakeup x = withStories(12);
        for (int story = 11; story >= 0; story--) {
            due("kill", x.kill(story), story);
        }
        due("alive", x.count(4), 0);
    }

    private static void killNobody() {
        checks.sentence("INVALID_ARGUMENT if there is no such story; ILLEGAL_STATE if it is killed "
                + "already.");
        for (int stories : new int[] {0, 1, 11, 12}) {
            NewspaperMakeup x = withStories(stories);
            for (int wrong : Checks.outside(0, stories - 1)) {
                due("story " + wrong, x.kill(wrong), INVALID);
            }
            due("alive", x.count(4), stories);
        }
    }

    private static void killAgain() {
        checks.sentence("ILLEGAL_STATE if it is killed already.");
        NewspaperMakeup x = withStories(2);
        due("kill", x.kill(0), 1);
        due("again", x.kill(0), STATE);
        due("the other", x.kill(1), 0);
        due("again", x.kill(1), STATE);
        x.revive(0);
        due("once more", x.kill(0), 0);
    }

    private static void revive() {
        checks.sentence("Revives a killed story.");
        NewspaperMakeup x = withStories(12);
        for (int story = 0; story < 12; story++) {
            x.kill(story);
        }
        for (int story = 0; story < 12; story++) {
            due("revive", x.revive(story), story + 1);
            due("alive", x.story(story, 4), 1);
        }
    }

    private static void reviveNobody() {
        checks.sentence("INVALID_ARGUMENT if there is no such story; ILLEGAL_STATE if it is "
                + "alive.");
        for (int stories : new int[] {0, 1, 11, 12}) {
            NewspaperMakeup x = withStories(stories);
            for (int wrong : Checks.outside(0, stories - 1)) {
                due("story " + wrong, x.revive(wrong), INVALID);
            }
        }
    }

    private static void reviveAgain() {
        checks.sentence("ILLEGAL_STATE if it is alive.");
        NewspaperMakeup x = withStories(1);
        due("never killed", x.revive(0), STATE);
        x.kill(0);
        due("revive", x.revive(0), 1);
        due("again", x.revive(0), STATE);
    }

    // ---- Promise 10

    private static void storyArguments() {
        checks.sentence("Returns the property; INVALID_ARGUMENT if there is no such story or what "
                + "is out of range.");
        for (int stories : new int[] {0, 1, 11, 12}) {
            NewspaperMakeup x = withStories(stories);
            for (int wrong : Checks.outside(0, stories - 1)) {
                due("story " + wrong, x.story(wrong, 0), INVALID);
            }
        }
        NewspaperMakeup x = Checks.loaded(3, 1, 10, "1@0:2;8@2:3,4;");
        for (int wrong : Checks.outside(0, 5)) {
            due("what " + wrong, x.story(0, wrong), INVALID);
        }
        int[] want = {8, 2, 2, 7, 1, 1};
        for (int what = 0; what < 6; what++) {
            due("what " + what, x.story(1, what), want[what]);
        }
    }

    private static void storyLines() {
        checks.sentence("2 the number of its paragraphs, 3 the lines of all its paragraphs");
        NewspaperMakeup x = new NewspaperMakeup();
        x.addStory(1, 0, 1);
        due("one paragraph", x.story(0, 2), 1);
        due("one line", x.story(0, 3), 1);
        x.addStory(1, 0, 30);
        for (int i = 0; i < 7; i++) {
            x.addParagraph(1, 30);
        }
        due("eight paragraphs", x.story(1, 2), 8);
        due("240 lines", x.story(1, 3), 240);
    }

    private static void storyAhead() {
        checks.sentence("5 how many stories that are alive go ahead of it");
        NewspaperMakeup x = withStories(12);
        due("none ahead of the first", x.story(0, 5), 0);
        due("eleven ahead of the last", x.story(11, 5), 11);
        x.setRank(11, 49);
        due("none ahead of it", x.story(11, 5), 0);
        due("one ahead", x.story(0, 5), 1);
        x.kill(11);
        due("a killed one does not count", x.story(0, 5), 0);
        due("of a killed one", x.story(11, 5), 0);
        x.setRank(11, 51);
        due("of a killed one", x.story(11, 5), 11);
    }

    // ---- Promise 11

    private static void paragraphArguments() {
        checks.sentence("Returns the length; INVALID_ARGUMENT if there is no such story or "
                + "paragraph is negative");
        for (int stories : new int[] {0, 1, 11, 12}) {
            NewspaperMakeup x = withStories(stories);
            for (int wrong : Checks.outside(0, stories - 1)) {
                due("story " + wrong, x.paragraph(wrong, 0), INVALID);
            }
        }
        NewspaperMakeup x = withStories(1);
        for (int wrong : new int[] {-1, -8, -256, -65536, Integer.MIN_VALUE}) {
            due("paragraph " + wrong, x.paragraph(0, wrong), INVALID);
        }
        due("paragraph 0", x.paragraph(0, 0), 1);
    }

    private static void paragraphBehindTheLast() {
        checks.sentence("NONE if it has not so many paragraphs.");
        NewspaperMakeup x = withStories(2);
        x.setParagraph(1, 0, 9);
        for (int number = 1; number <= 8; number++) {
            due("the last", x.paragraph(0, number - 1), number);
            due("behind the last", x.paragraph(0, number), NONE);
            x.addParagraph(0, number + 1);
        }
        for (int far : new int[] {9, 256, 65536, Integer.MAX_VALUE}) {
            due("far behind", x.paragraph(0, far), NONE);
        }
    }

    // ---- Promise 12

    private static void countArguments() {
        checks.sentence("Returns the number; INVALID_ARGUMENT if what is out of range.");
        NewspaperMakeup x = withStories(2);
        for (int wrong : Checks.outside(0, 7)) {
            due("what " + wrong, x.count(wrong), INVALID);
        }
    }

    private static void countBounds() {
        checks.sentence("0 P, 1 K, 2 H, 3 the stories, 4 those that are alive, 5 the number of the "
                + "latest edition (0 if there is none), 6 the length of the text, 7 the states "
                + "that are saved for undo()");
        NewspaperMakeup x = new NewspaperMakeup();
        int[] first = {3, 2, 30, 0, 0, 0, 0, 0};
        for (int what = 0; what < 8; what++) {
            due("at first: what " + what, x.count(what), first[what]);
        }
        x.setPages(5, 4, 60);
        for (int story = 0; story < 12; story++) {
            x.addStory(1, 4, 1);
        }
        x.kill(3);
        x.make();
        x.make();
        x.make();
        for (int i = 0; i < 120; i++) {
            x.appendCharacter(0);
        }
        int[] greatest = {5, 4, 60, 12, 11, 3, 120, 6};
        for (int what = 0; what < 8; what++) {
            due("full: what " + what, x.count(what), greatest[what]);
        }
    }
}

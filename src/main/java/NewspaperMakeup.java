import java.util.Arrays;

/**
 * The making up of a newspaper that is remade between editions. The document ../shared/DOC.md says
 * what each public method does; the rules that they share are in the classes below.
 */
public final class NewspaperMakeup {
    public static final int INVALID_ARGUMENT = -1;
    public static final int ILLEGAL_STATE = -2;
    public static final int CAPACITY_EXCEEDED = -3;
    public static final int NONE = -9;

    private static final int MIN_PAGES = 2;
    private static final int MAX_PAGES = 5;
    private static final int MAX_COLUMNS = 4;
    private static final int MIN_LINES = 10;
    private static final int MAX_LINES = 60;
    private static final int MAX_STORIES = 12;
    private static final int MAX_RANK = 99;
    private static final int MAX_PARAGRAPHS = 8;
    private static final int MAX_PARAGRAPH_LINES = 30;
    private static final int MAX_PIECES = 3;
    private static final int MAX_TEXT = 120;
    private static final int MAX_CHARACTER = 255;
    private static final int MAX_SAVED = 6;
    private static final int LOAD_ERROR = -10;

    /** The number of pieces of a story that was killed, or not there, when the edition was made. */
    private static final int ABSENT = -1;
    private static final int HELD_OVER = 0;
    private static final int NO_GAP = -1;
    private static final int NOWHERE = -1;

    private final Paper now = new Paper();
    private final Paper trial = new Paper();
    private final Paper[] saved = new Paper[MAX_SAVED];
    private int savedCount = 0;
    private final Text text = new Text();
    private final Maker maker = new Maker();
    private final Edition planned = new Edition();

    public NewspaperMakeup() {
        for (int i = 0; i < MAX_SAVED; i++) {
            saved[i] = new Paper();
        }
    }

    // ---- pages and stories

    public int setPages(int pages, int columns, int lines) {
        if (!isWithin(pages, MIN_PAGES, MAX_PAGES) || !isWithin(columns, 1, MAX_COLUMNS)
                || !isWithin(lines, MIN_LINES, MAX_LINES)) {
            return INVALID_ARGUMENT;
        }
        if (now.highestHome() >= pages) {
            return ILLEGAL_STATE;
        }
        saveState();
        now.changePages(pages, columns, lines);
        return pages * columns * lines;
    }

    public int addStory(int rank, int home, int lines) {
        if (!isRank(rank) || !isPage(home) || !isWithin(lines, 1, MAX_PARAGRAPH_LINES)) {
            return INVALID_ARGUMENT;
        }
        if (now.storyCount >= MAX_STORIES) {
            return CAPACITY_EXCEEDED;
        }
        saveState();
        int story = now.appendStory(rank, home);
        now.appendParagraph(story, lines);
        return story;
    }

    public int setRank(int story, int rank) {
        if (!isStory(story) || !isRank(rank)) {
            return INVALID_ARGUMENT;
        }
        saveState();
        int previous = now.rank[story];
        now.rank[story] = rank;
        return previous;
    }

    public int setHome(int story, int home) {
        if (!isStory(story) || !isPage(home)) {
            return INVALID_ARGUMENT;
        }
        saveState();
        int previous = now.home[story];
        now.home[story] = home;
        now.changed[story] = true;
        return previous;
    }

    public int addParagraph(int story, int lines) {
        if (!isStory(story) || !isWithin(lines, 1, MAX_PARAGRAPH_LINES)) {
            return INVALID_ARGUMENT;
        }
        if (now.paragraphCount[story] >= MAX_PARAGRAPHS) {
            return CAPACITY_EXCEEDED;
        }
        saveState();
        now.appendParagraph(story, lines);
        return now.paragraphCount[story];
    }

    public int setParagraph(int story, int paragraph, int lines) {
        if (!isStory(story) || !isWithin(paragraph, 0, now.paragraphCount[story] - 1)
                || !isWithin(lines, 0, MAX_PARAGRAPH_LINES)) {
            return INVALID_ARGUMENT;
        }
        if (lines == 0 && now.paragraphCount[story] == 1) {
            return ILLEGAL_STATE;
        }
        saveState();
        int previous = now.linesOf(story, paragraph);
        if (lines == 0) {
            now.removeParagraph(story, paragraph);
        } else {
            now.changeParagraph(story, paragraph, lines);
        }
        return previous;
    }

    public int kill(int story) {
        if (!isStory(story)) {
            return INVALID_ARGUMENT;
        }
        if (!now.alive[story]) {
            return ILLEGAL_STATE;
        }
        saveState();
        now.alive[story] = false;
        now.changed[story] = true;
        return now.aliveCount();
    }

    public int revive(int story) {
        if (!isStory(story)) {
            return INVALID_ARGUMENT;
        }
        if (now.alive[story]) {
            return ILLEGAL_STATE;
        }
        saveState();
        now.alive[story] = true;
        return now.aliveCount();
    }

    public int story(int story, int what) {
        if (!isStory(story)) {
            return INVALID_ARGUMENT;
        }
        switch (what) {
            case 0:
                return now.rank[story];
            case 1:
                return now.home[story];
            case 2:
                return now.paragraphCount[story];
            case 3:
                return now.linesOfParagraphs(story, 0, now.paragraphCount[story]);
            case 4:
                return now.alive[story] ? 1 : 0;
            case 5:
                return now.aliveAheadOf(story);
            default:
                return INVALID_ARGUMENT;
        }
    }

    public int paragraph(int story, int paragraph) {
        if (!isStory(story) || paragraph < 0) {
            return INVALID_ARGUMENT;
        }
        if (paragraph >= now.paragraphCount[story]) {
            return NONE;
        }
        return now.linesOf(story, paragraph);
    }

    public int count(int what) {
        switch (what) {
            case 0:
                return now.pages;
            case 1:
                return now.columns;
            case 2:
                return now.lines;
            case 3:
                return now.storyCount;
            case 4:
                return now.aliveCount();
            case 5:
                return now.latest.number;
            case 6:
                return text.length;
            case 7:
                return savedCount;
            default:
                return INVALID_ARGUMENT;
        }
    }

    // ---- text

    public int appendCharacter(int character) {
        if (!isWithin(character, 0, MAX_CHARACTER)) {
            return INVALID_ARGUMENT;
        }
        if (text.length >= MAX_TEXT) {
            return CAPACITY_EXCEEDED;
        }
        text.append(character);
        return text.length;
    }

    public int clearText() {
        int previous = text.length;
        text.length = 0;
        return previous;
    }

    public int load() {
        // Read into the trial paper, so that a text with an error leaves the present one as it is.
        trial.copyFrom(now);
        int wrong = text.readStories(trial);
        if (wrong != NOWHERE) {
            return LOAD_ERROR - wrong;
        }
        saveState();
        int added = trial.storyCount - now.storyCount;
        now.copyFrom(trial);
        text.length = 0;
        return added;
    }

    // ---- editions

    public int make() {
        saveState();
        maker.plan(now, planned);
        now.latest.copyFrom(planned);
        now.forgetChanges();
        return planned.heldOverStories();
    }

    public int edition(int what) {
        if (!isWithin(what, 0, 5)) {
            return INVALID_ARGUMENT;
        }
        if (!hasEdition()) {
            return ILLEGAL_STATE;
        }
        switch (what) {
            case 0:
                return now.latest.printedStories();
            case 1:
                return now.latest.heldOverStories();
            case 2:
                return now.latest.movedStories();
            case 3:
                return now.latest.allPieces();
            case 4:
                return now.latest.jumpLines();
            default:
                return now.latest.freeLines();
        }
    }

    public int pieces(int story) {
        if (!isStory(story)) {
            return INVALID_ARGUMENT;
        }
        if (!hasEdition()) {
            return ILLEGAL_STATE;
        }
        int number = now.latest.pieceCount[story];
        return number == ABSENT ? NONE : number;
    }

    public int piece(int story, int piece, int what) {
        if (!isStory(story) || piece < 0 || !isWithin(what, 0, 7)) {
            return INVALID_ARGUMENT;
        }
        if (!hasEdition()) {
            return ILLEGAL_STATE;
        }
        if (piece >= now.latest.pieceCount[story]) {
            return NONE;
        }
        return now.latest.propertyOf(story, piece, what);
    }

    public int at(int page, int column, int line) {
        if (!hasEdition()) {
            return ILLEGAL_STATE;
        }
        Edition latest = now.latest;
        if (!isWithin(page, 0, latest.pages - 1) || !isWithin(column, 0, latest.columns - 1)
                || !isWithin(line, 0, latest.lines - 1)) {
            return INVALID_ARGUMENT;
        }
        return latest.storyOnLine(page, column, line);
    }

    public int longestGap(int page) {
        if (!hasEdition()) {
            return ILLEGAL_STATE;
        }
        if (!isWithin(page, 0, now.latest.pages - 1)) {
            return INVALID_ARGUMENT;
        }
        return maker.longestGapOn(now.latest, page);
    }

    public int wasMoved(int story) {
        if (!isStory(story)) {
            return INVALID_ARGUMENT;
        }
        if (!hasEdition()) {
            return ILLEGAL_STATE;
        }
        if (!now.latest.isPrinted(story)) {
            return NONE;
        }
        return now.latest.moved[story] ? 1 : 0;
    }

    // ---- what would be (nothing changes)

    public int next(int what) {
        if (!isWithin(what, 0, 2)) {
            return INVALID_ARGUMENT;
        }
        maker.plan(now, planned);
        switch (what) {
            case 0:
                return planned.heldOverStories();
            case 1:
                return planned.movedStories();
            default:
                return planned.freeLines();
        }
    }

    public int piecesWith(int story, int rank) {
        if (!isStory(story) || !isRank(rank)) {
            return INVALID_ARGUMENT;
        }
        if (!now.alive[story]) {
            return ILLEGAL_STATE;
        }
        trial.copyFrom(now);
        trial.rank[story] = rank;
        maker.plan(trial, planned);
        return planned.pieceCount[story];
    }

    public int roomFor(int story) {
        if (!isStory(story)) {
            return INVALID_ARGUMENT;
        }
        if (!now.alive[story] || now.paragraphCount[story] >= MAX_PARAGRAPHS) {
            return ILLEGAL_STATE;
        }
        trial.copyFrom(now);
        int added = trial.paragraphCount[story];
        trial.appendParagraph(story, MAX_PARAGRAPH_LINES);
        for (int lines = MAX_PARAGRAPH_LINES; lines >= 1; lines--) {
            trial.changeParagraph(story, added, lines);
            maker.plan(trial, planned);
            if (planned.isPrinted(story)) {
                return lines;
            }
        }
        return 0;
    }

    // ---- undo

    public int undo() {
        if (savedCount <= 0) {
            return ILLEGAL_STATE;
        }
        savedCount--;
        now.copyFrom(saved[savedCount]);
        return savedCount;
    }

    private void saveState() {
        if (savedCount >= MAX_SAVED) {
            discardOldest();
        }
        saved[savedCount].copyFrom(now);
        savedCount++;
    }

    private void discardOldest() {
        // The oldest paper is used again for the state that comes next.
        Paper oldest = saved[0];
        for (int i = 1; i < MAX_SAVED; i++) {
            saved[i - 1] = saved[i];
        }
        saved[MAX_SAVED - 1] = oldest;
        savedCount = MAX_SAVED - 1;
    }

    private boolean isStory(int story) {
        return isWithin(story, 0, now.storyCount - 1);
    }

    private boolean isPage(int page) {
        return isWithin(page, 0, now.pages - 1);
    }

    private boolean hasEdition() {
        return now.latest.number > 0;
    }

    private static boolean isRank(int rank) {
        return isWithin(rank, 1, MAX_RANK);
    }

    private static boolean isWithin(int value, int least, int greatest) {
        return value >= least && value <= greatest;
    }

    /** All that undo() brings back: the pages, the stories and the latest edition. */
    private static final class Paper {
        int pages = 3;
        int columns = 2;
        int lines = 30;
        int storyCount = 0;
        final int[] rank = new int[MAX_STORIES];
        final int[] home = new int[MAX_STORIES];
        final int[] paragraphCount = new int[MAX_STORIES];
        final int[] paragraphLines = new int[MAX_STORIES * MAX_PARAGRAPHS];
        final boolean[] alive = new boolean[MAX_STORIES];
        /** Changed since the latest edition was made; ranks do not count. */
        final boolean[] changed = new boolean[MAX_STORIES];
        final Edition latest = new Edition();

        void copyFrom(Paper other) {
            pages = other.pages;
            columns = other.columns;
            lines = other.lines;
            storyCount = other.storyCount;
            System.arraycopy(other.rank, 0, rank, 0, MAX_STORIES);
            System.arraycopy(other.home, 0, home, 0, MAX_STORIES);
            System.arraycopy(other.paragraphCount, 0, paragraphCount, 0, MAX_STORIES);
            System.arraycopy(other.paragraphLines, 0, paragraphLines, 0,
                    MAX_STORIES * MAX_PARAGRAPHS);
            System.arraycopy(other.alive, 0, alive, 0, MAX_STORIES);
            System.arraycopy(other.changed, 0, changed, 0, MAX_STORIES);
            latest.copyFrom(other.latest);
        }

        void changePages(int newPages, int newColumns, int newLines) {
            pages = newPages;
            columns = newColumns;
            lines = newLines;
            for (int story = 0; story < storyCount; story++) {
                changed[story] = true;
            }
        }

        /** The highest home page, also of killed stories; -1 if there is no story. */
        int highestHome() {
            int highest = -1;
            for (int story = 0; story < storyCount; story++) {
                highest = Math.max(highest, home[story]);
            }
            return highest;
        }

        /** Adds a story that has no paragraph yet; there is room for it. */
        int appendStory(int itsRank, int itsHome) {
            int story = storyCount;
            rank[story] = itsRank;
            home[story] = itsHome;
            paragraphCount[story] = 0;
            alive[story] = true;
            storyCount++;
            return story;
        }

        /** Adds a paragraph; there is room for it. */
        void appendParagraph(int story, int itsLines) {
            int paragraph = paragraphCount[story];
            paragraphCount[story] = paragraph + 1;
            changeParagraph(story, paragraph, itsLines);
        }

        void changeParagraph(int story, int paragraph, int itsLines) {
            paragraphLines[story * MAX_PARAGRAPHS + paragraph] = itsLines;
            changed[story] = true;
        }

        void removeParagraph(int story, int paragraph) {
            int row = story * MAX_PARAGRAPHS;
            for (int i = paragraph + 1; i < paragraphCount[story]; i++) {
                paragraphLines[row + i - 1] = paragraphLines[row + i];
            }
            paragraphCount[story]--;
            changed[story] = true;
        }

        void forgetChanges() {
            for (int story = 0; story < storyCount; story++) {
                changed[story] = false;
            }
        }

        int linesOf(int story, int paragraph) {
            return paragraphLines[story * MAX_PARAGRAPHS + paragraph];
        }

        int linesOfParagraphs(int story, int first, int number) {
            int row = story * MAX_PARAGRAPHS;
            int sum = 0;
            for (int i = first; i < first + number; i++) {
                sum += paragraphLines[row + i];
            }
            return sum;
        }

        /** The lines that a piece with these paragraphs takes, with its jump lines. */
        int sizeOfPiece(int story, int first, int number) {
            int size = linesOfParagraphs(story, first, number);
            if (first > 0) {
                size++;
            }
            if (first + number < paragraphCount[story]) {
                size++;
            }
            return size;
        }

        int aliveCount() {
            int number = 0;
            for (int story = 0; story < storyCount; story++) {
                if (alive[story]) {
                    number++;
                }
            }
            return number;
        }

        int aliveAheadOf(int story) {
            int number = 0;
            for (int other = 0; other < storyCount; other++) {
                if (alive[other] && goesAhead(other, story)) {
                    number++;
                }
            }
            return number;
        }

        private boolean goesAhead(int one, int other) {
            return rank[one] < rank[other] || rank[one] == rank[other] && one < other;
        }
    }

    /** An edition as it was made, with the pages that there were then. Number 0 is none. */
    private static final class Edition {
        int number = 0;
        int pages = 0;
        int columns = 0;
        int lines = 0;
        /** By story: ABSENT, HELD_OVER, or the number of its pieces. */
        final int[] pieceCount = new int[MAX_STORIES];
        final boolean[] moved = new boolean[MAX_STORIES];
        // By piece: piece i of story s stands at s * MAX_PIECES + i.
        final int[] page = new int[MAX_STORIES * MAX_PIECES];
        final int[] column = new int[MAX_STORIES * MAX_PIECES];
        final int[] top = new int[MAX_STORIES * MAX_PIECES];
        final int[] size = new int[MAX_STORIES * MAX_PIECES];
        final int[] first = new int[MAX_STORIES * MAX_PIECES];
        final int[] paragraphs = new int[MAX_STORIES * MAX_PIECES];

        Edition() {
            Arrays.fill(pieceCount, ABSENT);
        }

        void copyFrom(Edition other) {
            number = other.number;
            pages = other.pages;
            columns = other.columns;
            lines = other.lines;
            System.arraycopy(other.pieceCount, 0, pieceCount, 0, MAX_STORIES);
            System.arraycopy(other.moved, 0, moved, 0, MAX_STORIES);
            copyPieces(other, 0, MAX_STORIES * MAX_PIECES);
        }

        private void copyPieces(Edition other, int from, int length) {
            System.arraycopy(other.page, from, page, from, length);
            System.arraycopy(other.column, from, column, from, length);
            System.arraycopy(other.top, from, top, from, length);
            System.arraycopy(other.size, from, size, from, length);
            System.arraycopy(other.first, from, first, from, length);
            System.arraycopy(other.paragraphs, from, paragraphs, from, length);
        }

        /** Becomes the edition behind the latest one of a paper, without any story yet. */
        void beginFor(Paper paper) {
            number = paper.latest.number + 1;
            pages = paper.pages;
            columns = paper.columns;
            lines = paper.lines;
            Arrays.fill(pieceCount, ABSENT);
            for (int story = 0; story < MAX_STORIES; story++) {
                moved[story] = false;
            }
        }

        void keepPieces(Edition before, int story) {
            pieceCount[story] = before.pieceCount[story];
            copyPieces(before, story * MAX_PIECES, MAX_PIECES);
        }

        /** Adds a piece, at the top of a gap, to a story that has fewer than MAX_PIECES. */
        void addPiece(int story, int itsPage, int gap, int itsSize, int itsFirst, int number) {
            int i = story * MAX_PIECES + pieceCount[story];
            page[i] = itsPage;
            column[i] = gap / MAX_LINES;
            top[i] = gap % MAX_LINES;
            size[i] = itsSize;
            first[i] = itsFirst;
            paragraphs[i] = number;
            pieceCount[story]++;
        }

        boolean isPrinted(int story) {
            return pieceCount[story] > 0;
        }

        boolean hasPieceOn(int story, int itsPage) {
            int row = story * MAX_PIECES;
            for (int i = 0; i < pieceCount[story]; i++) {
                if (page[row + i] == itsPage) {
                    return true;
                }
            }
            return false;
        }

        boolean isMovedSince(Edition before, int story) {
            if (!isPrinted(story) || !before.isPrinted(story)) {
                return false;
            }
            if (pieceCount[story] != before.pieceCount[story]) {
                return true;
            }
            int row = story * MAX_PIECES;
            for (int i = row; i < row + pieceCount[story]; i++) {
                if (page[i] != before.page[i] || column[i] != before.column[i]
                        || top[i] != before.top[i] || first[i] != before.first[i]) {
                    return true;
                }
            }
            return false;
        }

        int printedStories() {
            int stories = 0;
            for (int story = 0; story < MAX_STORIES; story++) {
                if (isPrinted(story)) {
                    stories++;
                }
            }
            return stories;
        }

        int heldOverStories() {
            int stories = 0;
            for (int story = 0; story < MAX_STORIES; story++) {
                if (pieceCount[story] == HELD_OVER) {
                    stories++;
                }
            }
            return stories;
        }

        int movedStories() {
            int stories = 0;
            for (int story = 0; story < MAX_STORIES; story++) {
                if (moved[story]) {
                    stories++;
                }
            }
            return stories;
        }

        int allPieces() {
            int sum = 0;
            for (int story = 0; story < MAX_STORIES; story++) {
                sum += Math.max(0, pieceCount[story]);
            }
            return sum;
        }

        int jumpLines() {
            // Every piece that another one follows leads to two jump lines, one on each page.
            return 2 * (allPieces() - printedStories());
        }

        int freeLines() {
            int free = pages * columns * lines;
            for (int story = 0; story < MAX_STORIES; story++) {
                int row = story * MAX_PIECES;
                for (int i = 0; i < pieceCount[story]; i++) {
                    free -= size[row + i];
                }
            }
            return free;
        }

        /** A property of a piece that there is, numbered as in the document's piece(). */
        int propertyOf(int story, int piece, int what) {
            int i = story * MAX_PIECES + piece;
            switch (what) {
                case 0:
                    return page[i];
                case 1:
                    return column[i];
                case 2:
                    return top[i];
                case 3:
                    return size[i];
                case 4:
                    return first[i];
                case 5:
                    return paragraphs[i];
                case 6:
                    return piece + 1 < pieceCount[story] ? page[i + 1] : NONE;
                default:
                    return piece > 0 ? page[i - 1] : NONE;
            }
        }

        int storyOnLine(int itsPage, int itsColumn, int line) {
            for (int story = 0; story < MAX_STORIES; story++) {
                int row = story * MAX_PIECES;
                for (int i = row; i < row + pieceCount[story]; i++) {
                    if (page[i] == itsPage && column[i] == itsColumn
                            && line >= top[i] && line < top[i] + size[i]) {
                        return story;
                    }
                }
            }
            return NONE;
        }
    }

    /** Which lines of the pages are taken, a bit each. */
    private static final class Sheet {
        private int columns = 0;
        private int lines = 0;
        private long allLines = 0L;
        /** Column c of page p stands at p * MAX_COLUMNS + c. */
        private final long[] taken = new long[MAX_PAGES * MAX_COLUMNS];

        void makeBlank(int itsColumns, int itsLines) {
            columns = itsColumns;
            lines = itsLines;
            allLines = bitsOf(0, itsLines);
            Arrays.fill(taken, 0L);
        }

        boolean hasPlaceFor(Edition edition, int story) {
            int row = story * MAX_PIECES;
            for (int i = row; i < row + edition.pieceCount[story]; i++) {
                long wanted = bitsOf(edition.top[i], edition.size[i]);
                if ((taken[columnOf(edition, i)] & wanted) != 0L) {
                    return false;
                }
            }
            return true;
        }

        void takeLinesOf(Edition edition, int story) {
            int row = story * MAX_PIECES;
            for (int i = row; i < row + edition.pieceCount[story]; i++) {
                taken[columnOf(edition, i)] |= bitsOf(edition.top[i], edition.size[i]);
            }
        }

        /** The first gap of a page that has so many lines: MAX_LINES * column + top, or NO_GAP. */
        int firstGapOn(int page, int size) {
            if (!isWithin(size, 1, lines)) {
                return NO_GAP;
            }
            for (int column = 0; column < columns; column++) {
                long starts = startsOfRoom(taken[page * MAX_COLUMNS + column], size);
                if (starts != 0L) {
                    // The first place with room is always at the top of its gap: were the line
                    // above it free, there would be room from that line on.
                    return column * MAX_LINES + Long.numberOfTrailingZeros(starts);
                }
            }
            return NO_GAP;
        }

        int longestGapOn(int page) {
            for (int size = lines; size >= 1; size--) {
                if (firstGapOn(page, size) != NO_GAP) {
                    return size;
                }
            }
            return 0;
        }

        /** The lines from which on so many lines (1 or more) are free. */
        private long startsOfRoom(long takenLines, int size) {
            long starts = ~takenLines & allLines;
            int reach = 1;
            // Doubling the reach instead of adding one line to it keeps the questions cheap.
            while (reach + reach <= size) {
                starts &= starts >>> reach;
                reach += reach;
            }
            return starts & (starts >>> (size - reach));
        }

        private static int columnOf(Edition edition, int piece) {
            return edition.page[piece] * MAX_COLUMNS + edition.column[piece];
        }

        private static long bitsOf(int top, int size) {
            return ((1L << size) - 1L) << top;
        }
    }

    /** Makes editions by the rules (a) to (d) of the document. */
    private static final class Maker {
        private final Sheet sheet = new Sheet();
        private final int[] order = new int[MAX_STORIES];

        /** Makes the edition that comes behind the latest one of a paper, which stays as it is. */
        void plan(Paper paper, Edition plan) {
            plan.beginFor(paper);
            sheet.makeBlank(paper.columns, paper.lines);
            int stories = putInOrder(paper);
            for (int i = 0; i < stories; i++) {
                int story = order[i];
                if (staysInPlace(paper, story)) {
                    plan.keepPieces(paper.latest, story);
                } else {
                    placeAnew(paper, plan, story);
                }
                sheet.takeLinesOf(plan, story);
                plan.moved[story] = plan.isMovedSince(paper.latest, story);
            }
        }

        int longestGapOn(Edition edition, int page) {
            sheet.makeBlank(edition.columns, edition.lines);
            for (int story = 0; story < MAX_STORIES; story++) {
                sheet.takeLinesOf(edition, story);
            }
            return sheet.longestGapOn(page);
        }

        /** Orders the stories that are alive, and answers how many they are. */
        private int putInOrder(Paper paper) {
            int stories = 0;
            for (int story = 0; story < paper.storyCount; story++) {
                if (paper.alive[story]) {
                    order[paper.aliveAheadOf(story)] = story;
                    stories++;
                }
            }
            return stories;
        }

        private boolean staysInPlace(Paper paper, int story) {
            return paper.latest.isPrinted(story) && !paper.changed[story]
                    && sheet.hasPlaceFor(paper.latest, story);
        }

        private void placeAnew(Paper paper, Edition plan, int story) {
            plan.pieceCount[story] = 0;
            int all = paper.paragraphCount[story];
            int placed = 0;
            for (int piece = 0; piece < MAX_PIECES && placed < all; piece++) {
                int more = placeNextPiece(paper, plan, story, placed);
                if (more == 0) {
                    break;
                }
                placed += more;
            }
            if (placed < all) {
                plan.pieceCount[story] = HELD_OVER;
            }
        }

        /** Places a piece that begins with a paragraph; answers how many it takes, 0 if none fits. */
        private int placeNextPiece(Paper paper, Edition plan, int story, int first) {
            int left = paper.paragraphCount[story] - first;
            boolean mayJump = plan.pieceCount[story] < MAX_PIECES - 1;
            int least = mayJump ? 1 : left;
            for (int number = left; number >= least; number--) {
                if (placeInFirstGap(paper, plan, story, first, number)) {
                    return number;
                }
            }
            return 0;
        }

        /** Goes through the home page for the first piece, else through the pages that are left. */
        private boolean placeInFirstGap(Paper paper, Edition plan, int story, int first,
                int number) {
            int size = paper.sizeOfPiece(story, first, number);
            int pages = first == 0 ? 1 : paper.pages;
            int page = paper.home[story];
            for (int i = 0; i < pages; i++) {
                int gap = plan.hasPieceOn(story, page) ? NO_GAP : sheet.firstGapOn(page, size);
                if (gap != NO_GAP) {
                    plan.addPiece(story, page, gap, size, first, number);
                    return true;
                }
                page = page + 1 < paper.pages ? page + 1 : 0;
            }
            return false;
        }
    }

    /** The text, and the reading of it from left to right. */
    private static final class Text {
        int length = 0;
        private final int[] characters = new int[MAX_TEXT];
        /** While reading: the offset of the next character that is no space. */
        private int place = 0;
        /** While reading: the error position, or NOWHERE. */
        private int wrong = NOWHERE;

        /** Appends a character; there is room for it. */
        void append(int character) {
            characters[length] = character;
            length++;
        }

        /** Adds the stories of the text to a paper; answers the error position, or NOWHERE. */
        int readStories(Paper paper) {
            place = 0;
            wrong = NOWHERE;
            skipSpaces();
            // Each turn adds a story or finds an error: one behind the twelfth is an error.
            for (int turn = 0; turn <= MAX_STORIES && place < length && !hasFailed(); turn++) {
                readStory(paper);
            }
            return wrong;
        }

        private void readStory(Paper paper) {
            if (paper.storyCount >= MAX_STORIES) {
                failAt(place);
                return;
            }
            int rank = readNumber(1, MAX_RANK);
            readSign('@');
            int home = readNumber(0, paper.pages - 1);
            readSign(':');
            if (!hasFailed()) {
                readParagraphs(paper, paper.appendStory(rank, home));
            }
        }

        private void readParagraphs(Paper paper, int story) {
            for (int paragraph = 0; paragraph < MAX_PARAGRAPHS; paragraph++) {
                int lines = readNumber(1, MAX_PARAGRAPH_LINES);
                if (hasFailed()) {
                    return;
                }
                paper.appendParagraph(story, lines);
                if (isAt(place, ';')) {
                    readSign(';');
                    return;
                }
                readSign(',');
            }
            // A ninth paragraph is an error where it begins, and so is anything else there.
            failAt(place);
        }

        private int readNumber(int least, int greatest) {
            int start = place;
            if (hasFailed() || !isDigitAt(start)) {
                failAt(start);
                return 0;
            }
            int value = characters[start] - '0';
            place++;
            boolean hasTwoDigits = isDigitAt(place);
            if (hasTwoDigits) {
                value = value * 10 + characters[place] - '0';
                place++;
            }
            if (!isWithin(value, least, greatest) || hasTwoDigits && isAt(start, '0')) {
                failAt(start);
            }
            skipSpaces();
            return value;
        }

        private void readSign(char sign) {
            if (!isAt(place, sign)) {
                failAt(place);
                return;
            }
            place++;
            skipSpaces();
        }

        private void skipSpaces() {
            while (place < length && isAt(place, ' ')) {
                place++;
            }
        }

        private boolean isAt(int offset, char sign) {
            return offset >= 0 && offset < length && characters[offset] == sign;
        }

        private boolean isDigitAt(int offset) {
            return offset >= 0 && offset < length && isWithin(characters[offset], '0', '9');
        }

        /** Only the first error counts. */
        private void failAt(int offset) {
            if (!hasFailed()) {
                wrong = offset;
            }
        }

        private boolean hasFailed() {
            return wrong != NOWHERE;
        }
    }
}

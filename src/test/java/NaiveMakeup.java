import java.util.ArrayList;
import java.util.List;

/**
 * The document once more, written as plainly as can be and without any thought for room or speed:
 * what RandomRunsTest compares the program with. It shares no code with the program.
 */
final class NaiveMakeup {
    static final int INVALID = -1;
    static final int STATE = -2;
    static final int FULL = -3;
    static final int NONE = -9;

    static final class Story {
        int rank;
        int home;
        List<Integer> paragraphs = new ArrayList<>();
        boolean alive = true;
        boolean changed = false;

        Story copy() {
            Story copy = new Story();
            copy.rank = rank;
            copy.home = home;
            copy.paragraphs = new ArrayList<>(paragraphs);
            copy.alive = alive;
            copy.changed = changed;
            return copy;
        }

        int lines(int from, int to) {
            int sum = 0;
            for (int i = from; i < to; i++) {
                sum += paragraphs.get(i);
            }
            return sum;
        }
    }

    record Piece(int page, int column, int top, int size, int first, int paragraphs) {
        boolean samePlace(Piece other) {
            return page == other.page && column == other.column && top == other.top
                    && first == other.first;
        }
    }

    record Gap(int page, int column, int top, int size) { }

    /** An edition is never changed after it was made, so states may share it. */
    static final class Edition {
        int number;
        int pages;
        int columns;
        int lines;
        int[][][] owner;
        /** By story: null if it was not there, an empty list if it is held over. */
        List<List<Piece>> stories = new ArrayList<>();
        List<Boolean> moved = new ArrayList<>();

        List<Piece> piecesOf(int story) {
            return story < stories.size() ? stories.get(story) : null;
        }

        boolean printed(int story) {
            List<Piece> pieces = piecesOf(story);
            return pieces != null && !pieces.isEmpty();
        }

        List<Gap> gaps(int page) {
            List<Gap> gaps = new ArrayList<>();
            for (int column = 0; column < columns; column++) {
                int line = 0;
                while (line < lines) {
                    int end = line;
                    while (end < lines && owner[page][column][end] == NONE) {
                        end++;
                    }
                    if (end > line) {
                        gaps.add(new Gap(page, column, line, end - line));
                    }
                    line = end + 1;
                }
            }
            return gaps;
        }

        int held() {
            int sum = 0;
            for (List<Piece> pieces : stories) {
                sum += pieces != null && pieces.isEmpty() ? 1 : 0;
            }
            return sum;
        }

        int movedCount() {
            int sum = 0;
            for (boolean it : moved) {
                sum += it ? 1 : 0;
            }
            return sum;
        }

        int free() {
            int sum = 0;
            for (int[][] page : owner) {
                for (int[] column : page) {
                    for (int story : column) {
                        sum += story == NONE ? 1 : 0;
                    }
                }
            }
            return sum;
        }
    }

    static final class State {
        int pages = 3;
        int columns = 2;
        int lines = 30;
        List<Story> stories = new ArrayList<>();
        Edition edition = null;

        State copy() {
            State copy = new State();
            copy.pages = pages;
            copy.columns = columns;
            copy.lines = lines;
            for (Story story : stories) {
                copy.stories.add(story.copy());
            }
            copy.edition = edition;
            return copy;
        }

        boolean ahead(int s, int t) {
            int a = stories.get(s).rank;
            int b = stories.get(t).rank;
            return a < b || a == b && s < t;
        }

        int alive() {
            int sum = 0;
            for (Story story : stories) {
                sum += story.alive ? 1 : 0;
            }
            return sum;
        }
    }

    private State state = new State();
    private final List<State> saved = new ArrayList<>();
    private String text = "";

    private void save() {
        saved.add(state.copy());
        if (saved.size() > 6) {
            saved.remove(0);
        }
    }

    private boolean noStory(int story) {
        return story < 0 || story >= state.stories.size();
    }

    private static boolean out(int value, int low, int high) {
        return value < low || value > high;
    }

    int setPages(int pages, int columns, int lines) {
        if (out(pages, 2, 5) || out(columns, 1, 4) || out(lines, 10, 60)) {
            return INVALID;
        }
        for (Story story : state.stories) {
            if (story.home >= pages) {
                return STATE;
            }
        }
        save();
        state.pages = pages;
        state.columns = columns;
        state.lines = lines;
        for (Story story : state.stories) {
            story.changed = true;
        }
        return pages * columns * lines;
    }

    int addStory(int rank, int home, int lines) {
        if (out(rank, 1, 99) || out(home, 0, state.pages - 1) || out(lines, 1, 30)) {
            return INVALID;
        }
        if (state.stories.size() == 12) {
            return FULL;
        }
        save();
        Story story = new Story();
        story.rank = rank;
        story.home = home;
        story.paragraphs.add(lines);
        state.stories.add(story);
        return state.stories.size() - 1;
    }

    int setRank(int story, int rank) {
        if (noStory(story) || out(rank, 1, 99)) {
            return INVALID;
        }
        save();
        int before = state.stories.get(story).rank;
        state.stories.get(story).rank = rank;
        return before;
    }

    int setHome(int story, int home) {
        if (noStory(story) || out(home, 0, state.pages - 1)) {
            return INVALID;
        }
        save();
        int before = state.stories.get(story).home;
        state.stories.get(story).home = home;
        state.stories.get(story).changed = true;
        return before;
    }

    int addParagraph(int story, int lines) {
        if (noStory(story) || out(lines, 1, 30)) {
            return INVALID;
        }
        if (state.stories.get(story).paragraphs.size() == 8) {
            return FULL;
        }
        save();
        state.stories.get(story).paragraphs.add(lines);
        state.stories.get(story).changed = true;
        return state.stories.get(story).paragraphs.size();
    }

    int setParagraph(int story, int paragraph, int lines) {
        if (noStory(story) || out(paragraph, 0, state.stories.get(story).paragraphs.size() - 1)
                || out(lines, 0, 30)) {
            return INVALID;
        }
        if (lines == 0 && state.stories.get(story).paragraphs.size() == 1) {
            return STATE;
        }
        save();
        List<Integer> paragraphs = state.stories.get(story).paragraphs;
        int before = paragraphs.get(paragraph);
        if (lines == 0) {
            paragraphs.remove(paragraph);
        } else {
            paragraphs.set(paragraph, lines);
        }
        state.stories.get(story).changed = true;
        return before;
    }

    int kill(int story) {
        if (noStory(story)) {
            return INVALID;
        }
        if (!state.stories.get(story).alive) {
            return STATE;
        }
        save();
        state.stories.get(story).alive = false;
        state.stories.get(story).changed = true;
        return state.alive();
    }

    int revive(int story) {
        if (noStory(story)) {
            return INVALID;
        }
        if (state.stories.get(story).alive) {
            return STATE;
        }
        save();
        state.stories.get(story).alive = true;
        return state.alive();
    }

    int story(int story, int what) {
        if (noStory(story) || out(what, 0, 5)) {
            return INVALID;
        }
        Story it = state.stories.get(story);
        int ahead = 0;
        for (int other = 0; other < state.stories.size(); other++) {
            ahead += state.stories.get(other).alive && state.ahead(other, story) ? 1 : 0;
        }
        int[] answers = {it.rank, it.home, it.paragraphs.size(),
            it.lines(0, it.paragraphs.size()), it.alive ? 1 : 0, ahead};
        return answers[what];
    }

    int paragraph(int story, int paragraph) {
        if (noStory(story) || paragraph < 0) {
            return INVALID;
        }
        List<Integer> paragraphs = state.stories.get(story).paragraphs;
        return paragraph < paragraphs.size() ? paragraphs.get(paragraph) : NONE;
    }

    int count(int what) {
        if (out(what, 0, 7)) {
            return INVALID;
        }
        int[] answers = {state.pages, state.columns, state.lines, state.stories.size(),
            state.alive(), state.edition == null ? 0 : state.edition.number, text.length(),
            saved.size()};
        return answers[what];
    }

    int appendCharacter(int character) {
        if (out(character, 0, 255)) {
            return INVALID;
        }
        if (text.length() == 120) {
            return FULL;
        }
        text += (char) character;
        return text.length();
    }

    int clearText() {
        int before = text.length();
        text = "";
        return before;
    }

    /**
     * A machine with states, fed sign by sign: 0 before a rank, 1 behind it, 2 before a home page,
     * 3 behind it, 4 before a paragraph, 5 behind it.
     */
    int load() {
        int where = 0;
        Story story = null;
        List<Story> added = new ArrayList<>();
        int i = 0;
        while (i < text.length()) {
            char c = text.charAt(i);
            if (c == ' ') {
                i++;
                continue;
            }
            if (where % 2 == 0) {
                if (c < '0' || c > '9') {
                    return -10 - i;
                }
                int digits = i + 1 < text.length() && text.charAt(i + 1) >= '0'
                        && text.charAt(i + 1) <= '9' ? 2 : 1;
                int value = Integer.parseInt(text.substring(i, i + digits));
                int low = where == 2 ? 0 : 1;
                int high = where == 0 ? 99 : where == 2 ? state.pages - 1 : 30;
                if (c == '0' && digits == 2 || out(value, low, high)) {
                    return -10 - i;
                }
                if (where == 0) {
                    if (state.stories.size() + added.size() == 12) {
                        return -10 - i;
                    }
                    story = new Story();
                    story.rank = value;
                } else if (where == 2) {
                    story.home = value;
                } else {
                    if (story.paragraphs.size() == 8) {
                        return -10 - i;
                    }
                    story.paragraphs.add(value);
                }
                where++;
                i += digits;
                continue;
            }
            if (where == 1 && c == '@' || where == 3 && c == ':') {
                where++;
            } else if (where == 5 && c == ',') {
                where = 4;
            } else if (where == 5 && c == ';') {
                added.add(story);
                where = 0;
            } else {
                return -10 - i;
            }
            i++;
        }
        if (where != 0) {
            return -10 - text.length();
        }
        save();
        state.stories.addAll(added);
        text = "";
        return added.size();
    }

    /** The edition that would be made of a state. */
    private static Edition plan(State state) {
        Edition before = state.edition;
        Edition plan = new Edition();
        plan.number = before == null ? 1 : before.number + 1;
        plan.pages = state.pages;
        plan.columns = state.columns;
        plan.lines = state.lines;
        plan.owner = new int[state.pages][state.columns][state.lines];
        for (int[][] page : plan.owner) {
            for (int[] column : page) {
                java.util.Arrays.fill(column, NONE);
            }
        }
        List<Integer> order = new ArrayList<>();
        for (int s = 0; s < state.stories.size(); s++) {
            plan.stories.add(null);
            plan.moved.add(false);
            if (state.stories.get(s).alive) {
                order.add(s);
            }
        }
        order.sort((s, t) -> state.ahead(s, t) ? -1 : state.ahead(t, s) ? 1 : 0);
        for (int s : order) {
            Story story = state.stories.get(s);
            List<Piece> pieces = before != null && before.printed(s) && !story.changed
                    && free(plan, before.piecesOf(s)) ? before.piecesOf(s) : anew(plan, story);
            plan.stories.set(s, pieces);
            for (Piece piece : pieces) {
                for (int line = 0; line < piece.size(); line++) {
                    plan.owner[piece.page()][piece.column()][piece.top() + line] = s;
                }
            }
            plan.moved.set(s, before != null && before.printed(s) && !pieces.isEmpty()
                    && differ(pieces, before.piecesOf(s)));
        }
        return plan;
    }

    private static boolean free(Edition plan, List<Piece> pieces) {
        for (Piece piece : pieces) {
            for (int line = 0; line < piece.size(); line++) {
                if (plan.owner[piece.page()][piece.column()][piece.top() + line] != NONE) {
                    return false;
                }
            }
        }
        return true;
    }

    private static boolean differ(List<Piece> one, List<Piece> other) {
        boolean same = one.size() == other.size();
        for (int i = 0; same && i < one.size(); i++) {
            same = one.get(i).samePlace(other.get(i));
        }
        return !same;
    }

    private static Gap firstGap(Edition plan, List<Integer> pages, int size) {
        for (int page : pages) {
            for (Gap gap : plan.gaps(page)) {
                if (gap.size() >= size) {
                    return gap;
                }
            }
        }
        return null;
    }

    private static List<Piece> anew(Edition plan, Story story) {
        List<Piece> pieces = new ArrayList<>();
        int all = story.paragraphs.size();
        Gap gap = firstGap(plan, List.of(story.home), story.lines(0, all));
        if (gap != null) {
            pieces.add(new Piece(gap.page(), gap.column(), gap.top(), story.lines(0, all), 0, all));
            return pieces;
        }
        int one = all - 1;
        while (one > 0 && firstGap(plan, List.of(story.home), story.lines(0, one) + 1) == null) {
            one--;
        }
        if (one <= 0) {
            return List.of();
        }
        gap = firstGap(plan, List.of(story.home), story.lines(0, one) + 1);
        pieces.add(new Piece(gap.page(), gap.column(), gap.top(), story.lines(0, one) + 1, 0, one));
        List<Integer> others = new ArrayList<>();
        for (int page = story.home + 1; page < plan.pages; page++) {
            others.add(page);
        }
        for (int page = 0; page < story.home; page++) {
            others.add(page);
        }
        int rest = story.lines(one, all) + 1;
        gap = firstGap(plan, others, rest);
        if (gap != null) {
            pieces.add(new Piece(gap.page(), gap.column(), gap.top(), rest, one, all - one));
            return pieces;
        }
        int two = all - one - 1;
        while (two > 0 && firstGap(plan, others, story.lines(one, one + two) + 2) == null) {
            two--;
        }
        if (two <= 0) {
            return List.of();
        }
        int middle = story.lines(one, one + two) + 2;
        gap = firstGap(plan, others, middle);
        pieces.add(new Piece(gap.page(), gap.column(), gap.top(), middle, one, two));
        others.remove(Integer.valueOf(gap.page()));
        int last = story.lines(one + two, all) + 1;
        gap = firstGap(plan, others, last);
        if (gap == null) {
            return List.of();
        }
        pieces.add(new Piece(gap.page(), gap.column(), gap.top(), last, one + two,
                all - one - two));
        return pieces;
    }

    int make() {
        save();
        state.edition = plan(state);
        for (Story story : state.stories) {
            story.changed = false;
        }
        return state.edition.held();
    }

    int edition(int what) {
        if (out(what, 0, 5)) {
            return INVALID;
        }
        if (state.edition == null) {
            return STATE;
        }
        int printed = 0;
        int pieces = 0;
        int jumps = 0;
        for (int s = 0; s < state.edition.stories.size(); s++) {
            if (state.edition.printed(s)) {
                printed++;
                pieces += state.edition.piecesOf(s).size();
                jumps += 2 * state.edition.piecesOf(s).size() - 2;
            }
        }
        int[] answers = {printed, state.edition.held(), state.edition.movedCount(), pieces, jumps,
            state.edition.free()};
        return answers[what];
    }

    int pieces(int story) {
        if (noStory(story)) {
            return INVALID;
        }
        if (state.edition == null) {
            return STATE;
        }
        List<Piece> pieces = state.edition.piecesOf(story);
        return pieces == null ? NONE : pieces.size();
    }

    int piece(int story, int piece, int what) {
        if (noStory(story) || piece < 0 || out(what, 0, 7)) {
            return INVALID;
        }
        if (state.edition == null) {
            return STATE;
        }
        List<Piece> pieces = state.edition.piecesOf(story);
        if (pieces == null || piece >= pieces.size()) {
            return NONE;
        }
        Piece it = pieces.get(piece);
        int[] answers = {it.page(), it.column(), it.top(), it.size(), it.first(), it.paragraphs(),
            piece + 1 < pieces.size() ? pieces.get(piece + 1).page() : NONE,
            piece > 0 ? pieces.get(piece - 1).page() : NONE};
        return answers[what];
    }

    int at(int page, int column, int line) {
        if (state.edition == null) {
            return STATE;
        }
        if (out(page, 0, state.edition.pages - 1) || out(column, 0, state.edition.columns - 1)
                || out(line, 0, state.edition.lines - 1)) {
            return INVALID;
        }
        return state.edition.owner[page][column][line];
    }

    int longestGap(int page) {
        if (state.edition == null) {
            return STATE;
        }
        if (out(page, 0, state.edition.pages - 1)) {
            return INVALID;
        }
        int longest = 0;
        for (Gap gap : state.edition.gaps(page)) {
            longest = Math.max(longest, gap.size());
        }
        return longest;
    }

    int wasMoved(int story) {
        if (noStory(story)) {
            return INVALID;
        }
        if (state.edition == null) {
            return STATE;
        }
        if (!state.edition.printed(story)) {
            return NONE;
        }
        return state.edition.moved.get(story) ? 1 : 0;
    }

    int next(int what) {
        if (out(what, 0, 2)) {
            return INVALID;
        }
        Edition plan = plan(state);
        int[] answers = {plan.held(), plan.movedCount(), plan.free()};
        return answers[what];
    }

    int piecesWith(int story, int rank) {
        if (noStory(story) || out(rank, 1, 99)) {
            return INVALID;
        }
        if (!state.stories.get(story).alive) {
            return STATE;
        }
        State other = state.copy();
        other.stories.get(story).rank = rank;
        return plan(other).piecesOf(story).size();
    }

    int roomFor(int story) {
        if (noStory(story)) {
            return INVALID;
        }
        if (!state.stories.get(story).alive || state.stories.get(story).paragraphs.size() == 8) {
            return STATE;
        }
        int best = 0;
        for (int lines = 1; lines <= 30; lines++) {
            State other = state.copy();
            other.stories.get(story).paragraphs.add(lines);
            other.stories.get(story).changed = true;
            if (!plan(other).piecesOf(story).isEmpty()) {
                best = lines;
            }
        }
        return best;
    }

    int undo() {
        if (saved.isEmpty()) {
            return STATE;
        }
        state = saved.remove(saved.size() - 1);
        return saved.size();
    }
}

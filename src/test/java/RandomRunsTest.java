import java.util.Random;

/** Compares the program with the naive one in long random runs; the seeds are fixed. */
final class RandomRunsTest {
    /** What an object answers behind its 512th call is free. */
    private static final int MOST_CALLS = 512;
    private static final int LONGEST_TEXT = 130;
    private static final int RUNS = 800;
    private static final int[] WILD = {Integer.MIN_VALUE, Integer.MAX_VALUE, -1, -2, 256, 1000, 64};

    private final Random random;
    private final NewspaperMakeup program = new NewspaperMakeup();
    private final NaiveMakeup naive = new NaiveMakeup();
    private final Checks checks;
    private final String name;
    private int calls = 0;
    /** The greatest paragraph length of this run, so that some runs have small stories. */
    private final int longest;

    private RandomRunsTest(int seed, Checks checks) {
        random = new Random(seed);
        this.checks = checks;
        name = "seed " + seed;
        longest = 3 + random.nextInt(28);
    }

    /** A number from low to high, now and then one just outside, seldom any number. */
    private int number(int low, int high) {
        int kind = random.nextInt(60);
        if (kind == 0) {
            return WILD[random.nextInt(WILD.length)];
        }
        if (kind == 1) {
            return low - 1;
        }
        if (kind == 2) {
            return high + 1;
        }
        return low + random.nextInt(Math.max(1, high - low + 1));
    }

    private int anyStory() {
        return number(0, naive.count(3) - 1);
    }

    private int anyPage() {
        return number(0, naive.count(0) - 1);
    }

    private int anyLength() {
        return random.nextInt(4) == 0 ? number(1, 30) : number(1, longest);
    }

    private int anyRank() {
        return random.nextBoolean() ? number(1, 9) : number(1, 99);
    }

    private void due(String call, int got, int want) {
        calls++;
        checks.due(name + ": " + call, got, want);
    }

    private void run(int most) {
        while (calls < most) {
            int kind = random.nextInt(100);
            if (kind < 45) {
                change();
            } else if (kind < 47 && calls < most - LONGEST_TEXT) {
                text();
            } else if (kind < 55) {
                due("make()", program.make(), naive.make());
            } else {
                ask();
            }
        }
    }

    private void change() {
        switch (random.nextInt(16)) {
            case 0: {
                int p = number(2, 5);
                int k = number(1, 4);
                int h = random.nextBoolean() ? number(10, 20) : number(10, 60);
                due("setPages " + p + " " + k + " " + h, program.setPages(p, k, h),
                        naive.setPages(p, k, h));
                break;
            }
            case 1: case 2: case 3: {
                int rank = anyRank();
                int home = anyPage();
                int lines = anyLength();
                due("addStory " + rank + " " + home + " " + lines,
                        program.addStory(rank, home, lines), naive.addStory(rank, home, lines));
                break;
            }
            case 4: case 5: {
                int s = anyStory();
                int rank = anyRank();
                due("setRank " + s + " " + rank, program.setRank(s, rank), naive.setRank(s, rank));
                break;
            }
            case 6: {
                int s = anyStory();
                int home = anyPage();
                due("setHome " + s + " " + home, program.setHome(s, home), naive.setHome(s, home));
                break;
            }
            case 7: case 8: case 9: case 10: {
                int s = anyStory();
                int lines = anyLength();
                due("addParagraph " + s + " " + lines, program.addParagraph(s, lines),
                        naive.addParagraph(s, lines));
                break;
            }
            case 11: case 12: {
                int s = anyStory();
                int p = number(0, Math.max(0, naive.story(s, 2) - 1));
                int lines = random.nextInt(3) == 0 ? 0 : anyLength();
                due("setParagraph " + s + " " + p + " " + lines, program.setParagraph(s, p, lines),
                        naive.setParagraph(s, p, lines));
                break;
            }
            case 13: {
                int s = anyStory();
                due("kill " + s, program.kill(s), naive.kill(s));
                break;
            }
            case 14: {
                int s = anyStory();
                due("revive " + s, program.revive(s), naive.revive(s));
                break;
            }
            default:
                due("undo", program.undo(), naive.undo());
        }
    }

    private void text() {
        if (random.nextInt(3) > 0) {
            due("clearText", program.clearText(), naive.clearText());
        }
        String signs = anyText();
        for (int i = 0; i < signs.length(); i++) {
            due("appendCharacter " + (int) signs.charAt(i),
                    program.appendCharacter(signs.charAt(i)),
                    naive.appendCharacter(signs.charAt(i)));
        }
        due("load " + signs, program.load(), naive.load());
    }

    private String anyText() {
        StringBuilder text = new StringBuilder();
        int stories = random.nextInt(5);
        for (int s = 0; s < stories; s++) {
            sign(text, String.valueOf(1 + random.nextInt(99)));
            sign(text, "@");
            sign(text, String.valueOf(random.nextInt(naive.count(0))));
            sign(text, ":");
            int paragraphs = random.nextInt(12) == 0 ? 9 : 1 + random.nextInt(8);
            for (int p = 0; p < paragraphs; p++) {
                sign(text, (p > 0 ? "," : "") + (1 + random.nextInt(longest)));
            }
            sign(text, ";");
        }
        int spoils = random.nextInt(3);
        for (int i = 0; i < spoils && text.length() > 0; i++) {
            int place = random.nextInt(text.length());
            String any = "0123456789@:,;  x";
            if (random.nextBoolean()) {
                text.setCharAt(place, any.charAt(random.nextInt(any.length())));
            } else {
                text.setLength(place);
            }
        }
        return text.length() > 125 ? text.substring(0, 125) : text.toString();
    }

    private void sign(StringBuilder text, String sign) {
        if (random.nextInt(8) == 0) {
            text.append(' ');
        }
        text.append(sign);
    }

    private void ask() {
        int s = anyStory();
        switch (random.nextInt(14)) {
            case 0: {
                int what = number(0, 5);
                due("story " + s + " " + what, program.story(s, what), naive.story(s, what));
                break;
            }
            case 1: {
                int p = number(0, 8);
                due("paragraph " + s + " " + p, program.paragraph(s, p), naive.paragraph(s, p));
                break;
            }
            case 2: {
                int what = number(0, 7);
                due("count " + what, program.count(what), naive.count(what));
                break;
            }
            case 3: {
                int what = number(0, 5);
                due("edition " + what, program.edition(what), naive.edition(what));
                break;
            }
            case 4:
                due("pieces " + s, program.pieces(s), naive.pieces(s));
                break;
            case 5: case 6: {
                int piece = number(0, 2);
                int what = number(0, 7);
                due("piece " + s + " " + piece + " " + what, program.piece(s, piece, what),
                        naive.piece(s, piece, what));
                break;
            }
            case 7: case 8: {
                int page = anyPage();
                int column = number(0, naive.count(1) - 1);
                int line = number(0, naive.count(2) - 1);
                due("at " + page + " " + column + " " + line, program.at(page, column, line),
                        naive.at(page, column, line));
                break;
            }
            case 9: {
                int page = anyPage();
                due("longestGap " + page, program.longestGap(page), naive.longestGap(page));
                break;
            }
            case 10:
                due("wasMoved " + s, program.wasMoved(s), naive.wasMoved(s));
                break;
            case 11: {
                int what = number(0, 2);
                due("next " + what, program.next(what), naive.next(what));
                break;
            }
            case 12: {
                int rank = anyRank();
                due("piecesWith " + s + " " + rank, program.piecesWith(s, rank),
                        naive.piecesWith(s, rank));
                break;
            }
            default:
                due("roomFor " + s, program.roomFor(s), naive.roomFor(s));
        }
    }

    /** Asks all that a state answers of some story, so that no difference stays hidden in it. */
    private void askAll() {
        for (int what = 0; what < 8; what++) {
            due("count " + what, program.count(what), naive.count(what));
            due("edition " + what, program.edition(what), naive.edition(what));
            due("next " + what, program.next(what), naive.next(what));
        }
        int first = random.nextInt(12);
        for (int i = 0; i < 12 && calls + 42 <= MOST_CALLS; i++) {
            askAllOf((first + i) % 12);
        }
        while (calls < MOST_CALLS && naive.count(7) > 0) {
            due("undo", program.undo(), naive.undo());
        }
    }

    private void askAllOf(int s) {
        for (int what = 0; what < 8; what++) {
            due("story " + s + " " + what, program.story(s, what), naive.story(s, what));
            due("paragraph " + s + " " + what, program.paragraph(s, what),
                    naive.paragraph(s, what));
            for (int piece = 0; piece < 3; piece++) {
                due("piece " + s + " " + piece + " " + what, program.piece(s, piece, what),
                        naive.piece(s, piece, what));
            }
        }
        due("wasMoved " + s, program.wasMoved(s), naive.wasMoved(s));
        due("roomFor " + s, program.roomFor(s), naive.roomFor(s));
    }

    public static void main(String[] args) {
        Checks checks = new Checks();
        for (int seed = 0; seed < RUNS; seed++) {
            RandomRunsTest test = new RandomRunsTest(seed, checks);
            // Some runs go to the last call, others leave calls to ask for all that is there.
            if (seed % 2 == 0) {
                test.run(MOST_CALLS);
            } else {
                test.run(100 + seed % 300);
                test.askAll();
            }
        }
        checks.finish("RandomRunsTest");
    }
}

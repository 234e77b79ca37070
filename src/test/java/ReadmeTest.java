import java.io.IOException;
import java.nio.file.Files;
import java.nio.file.Path;
import java.util.ArrayList;
import java.util.List;
import java.util.regex.Matcher;
import java.util.regex.Pattern;

/** Makes the calls of README.md's examples; their answers are the ones that are told there. */
final class ReadmeTest {
    /** A call that stands on a line of its own, and the answer that is told behind it. */
    private static final Pattern TOLD = Pattern.compile("(paper\\..*\\);) +// (-?\\d+): .*");

    private final Checks checks = new Checks();
    private final List<String> calls = new ArrayList<>();
    private final List<Integer> answers = new ArrayList<>();
    private int next = 0;

    private ReadmeTest() throws IOException {
        for (String line : Files.readAllLines(Path.of("README.md"))) {
            Matcher matcher = TOLD.matcher(line);
            if (matcher.matches()) {
                calls.add(matcher.group(1));
                answers.add(Integer.valueOf(matcher.group(2)));
            }
        }
    }

    private void due(String call, int got) {
        boolean isTold = next < calls.size();
        checks.due("the next call in README.md", isTold ? calls.get(next) : "none", call);
        if (isTold) {
            checks.due("README.md: " + call, got, answers.get(next));
        }
        next++;
    }

    private void edition(NewspaperMakeup paper) {
        due("paper.setPages(3, 1, 10);", paper.setPages(3, 1, 10));
        due("paper.addStory(1, 1, 4);", paper.addStory(1, 1, 4));
        due("paper.addParagraph(0, 4);", paper.addParagraph(0, 4));
        due("paper.addParagraph(0, 4);", paper.addParagraph(0, 4));
        due("paper.make();", paper.make());
        due("paper.pieces(0);", paper.pieces(0));
        due("paper.piece(0, 0, 6);", paper.piece(0, 0, 6));
        due("paper.piece(0, 1, 3);", paper.piece(0, 1, 3));
        due("paper.at(2, 0, 4);", paper.at(2, 0, 4));
        due("paper.at(2, 0, 5);", paper.at(2, 0, 5));
        due("paper.longestGap(1);", paper.longestGap(1));
    }

    private void text(NewspaperMakeup paper) {
        Checks.type(paper, "2@1:5; 3@0:6,3");
        due("paper.load();", paper.load());
        due("paper.appendCharacter(';');", paper.appendCharacter(';'));
        due("paper.load();", paper.load());
    }

    private void questions(NewspaperMakeup paper) {
        due("paper.next(0);", paper.next(0));
        due("paper.piecesWith(1, 1);", paper.piecesWith(1, 1));
        due("paper.roomFor(2);", paper.roomFor(2));
        due("paper.kill(0);", paper.kill(0));
        due("paper.next(0);", paper.next(0));
        due("paper.undo();", paper.undo());
        due("paper.setRank(0, 100);", paper.setRank(0, 100));
    }

    public static void main(String[] args) throws IOException {
        ReadmeTest test = new ReadmeTest();
        NewspaperMakeup paper = new NewspaperMakeup();
        test.edition(paper);
        test.text(paper);
        test.questions(paper);
        test.checks.due("calls in README.md", test.calls.size(), test.next);
        test.checks.finish("ReadmeTest");
    }
}

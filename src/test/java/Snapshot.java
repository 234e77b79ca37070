import java.util.function.Supplier;

/**
 * All that an object answers, as a text: what two objects in the same state have in common. With
 * twelve stories it still leaves the object some hundred of its 512 calls.
 */
final class Snapshot {
    /** A call on a newspaper. */
    interface Call {
        int on(NewspaperMakeup paper);
    }

    private Snapshot() { }

    /**
     * The answers of objects from a scenario after a call: what is there, what an edition and the
     * text bring then, and what undo() brings back. It takes a new object for each of the three,
     * since the last two change it.
     */
    static String after(Supplier<NewspaperMakeup> scenario, Call call) {
        StringBuilder answers = new StringBuilder();
        NewspaperMakeup x = scenario.get();
        call.on(x);
        state(x, answers);
        questions(x, answers);
        NewspaperMakeup y = scenario.get();
        call.on(y);
        answers.append("\nmake ").append(y.make());
        edition(y, answers);
        answers.append("\nload ").append(y.load());
        state(y, answers);
        NewspaperMakeup z = scenario.get();
        call.on(z);
        for (int i = 0; i < 7; i++) {
            answers.append("\nundo ").append(z.undo());
            brief(z, answers);
        }
        return answers.toString();
    }

    /** What undo() brings back: all but the text, and but the states that are saved. */
    static String withoutText(NewspaperMakeup x) {
        StringBuilder answers = new StringBuilder();
        for (int what = 0; what < 6; what++) {
            answers.append(' ').append(x.count(what));
        }
        stories(x, answers);
        edition(x, answers);
        questions(x, answers);
        return answers.toString();
    }

    private static void state(NewspaperMakeup x, StringBuilder answers) {
        answers.append("\ncount");
        for (int what = 0; what < 8; what++) {
            answers.append(' ').append(x.count(what));
        }
        stories(x, answers);
        edition(x, answers);
    }

    private static void stories(NewspaperMakeup x, StringBuilder answers) {
        int number = x.count(3);
        for (int story = 0; story < number; story++) {
            answers.append("\nstory ").append(story).append(':');
            for (int what = 0; what < 6; what++) {
                answers.append(' ').append(x.story(story, what));
            }
            answers.append(';');
            int paragraphs = x.story(story, 2);
            for (int paragraph = 0; paragraph <= paragraphs; paragraph++) {
                answers.append(' ').append(x.paragraph(story, paragraph));
            }
        }
    }

    private static void edition(NewspaperMakeup x, StringBuilder answers) {
        answers.append("\nedition");
        for (int what = 0; what < 6; what++) {
            answers.append(' ').append(x.edition(what));
        }
        for (int page = 0; page < 5; page++) {
            answers.append(' ').append(x.longestGap(page));
        }
        int number = x.count(3);
        for (int story = 0; story < number; story++) {
            answers.append("\npieces ").append(story).append(": ").append(x.pieces(story));
            answers.append(' ').append(x.wasMoved(story));
            int pieces = x.pieces(story);
            for (int piece = 0; piece < pieces; piece++) {
                answers.append(';');
                for (int what = 0; what < 6; what++) {
                    answers.append(' ').append(x.piece(story, piece, what));
                }
            }
        }
    }

    private static void questions(NewspaperMakeup x, StringBuilder answers) {
        answers.append("\nnext ").append(x.next(0)).append(' ').append(x.next(1)).append(' ')
                .append(x.next(2));
        int number = x.count(3);
        for (int story = 0; story < number; story++) {
            answers.append("\nwould ").append(x.piecesWith(story, 1)).append(' ')
                    .append(x.piecesWith(story, 99)).append(' ').append(x.roomFor(story));
        }
    }

    private static void brief(NewspaperMakeup x, StringBuilder answers) {
        for (int what = 0; what < 8; what++) {
            answers.append(' ').append(x.count(what));
        }
        int number = x.count(3);
        for (int story = 0; story < number; story++) {
            answers.append(';').append(x.story(story, 0)).append(' ').append(x.story(story, 3));
        }
        answers.append(';').append(x.next(0)).append(' ').append(x.next(1)).append(' ')
                .append(x.next(2)).append(' ').append(x.edition(5));
    }
}

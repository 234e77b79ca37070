import java.util.function.Supplier;

/** The boundaries that "Undo", "Errors" and promise 26 name, and the 512 calls of an object. */
final class UndoAndErrorBoundariesTest {
    private static final int INVALID = NewspaperMakeup.INVALID_ARGUMENT;
    private static final int STATE = NewspaperMakeup.ILLEGAL_STATE;
    private static final int FULL = NewspaperMakeup.CAPACITY_EXCEEDED;
    private static final int NONE = NewspaperMakeup.NONE;

    private static final Checks checks = new Checks();

    private static void due(String call, long got, long want) {
        checks.due(call, got, want);
    }

    public static void main(String[] args) {
        calls512();
        successfulCallsSave();
        savedStateComesBack();
        refusedCallsSaveNothing();
        otherCallsSaveNothing();
        everythingButTheText();
        everythingOfTheTwelfthStory();
        atMostSixStates();
        oldestIsDiscarded();
        mostRecentFirst();
        undoNothing();
        undoReturns();
        constants();
        refusedOnANewObject();
        refusedOnABusyOne();
        refusedOnAFullOne();
        refusedOnAFullText();
        firstNamedGoesFirst();
        noneOnlyIfNoErrorApplies();
        questionsChangeNothing();
        checks.finish("UndoAndErrorBoundariesTest");
    }

    // ---- Scenarios

    /**
     * Page 0 has a gap above story 1, which is not changed; story 4 is changed and would move there;
     * story 5 stands in two pieces, story 7 is held over, story 8 is alone on the last page.
     */
    private static NewspaperMakeup busy() {
        NewspaperMakeup x = new NewspaperMakeup();
        Checks.type(x, "1@0:20;2@0:10;1@0:30;3@1:20;4@1:10;5@1:5,6;3@1:23;9@1:30,30,30;8@2:1;");
        x.load();
        x.make();
        x.kill(0);
        x.setHome(4, 0);
        Checks.type(x, "6@2:9;");
        return x;
    }

    /** Twelve stories, four of them killed; story 0 has eight paragraphs. */
    private static NewspaperMakeup full() {
        NewspaperMakeup x = new NewspaperMakeup();
        x.setPages(2, 1, 10);
        for (int story = 0; story < 12; story++) {
            x.addStory(1 + story, story % 2, 1 + story % 3);
        }
        for (int paragraph = 1; paragraph < 8; paragraph++) {
            x.addParagraph(0, 1);
        }
        x.make();
        for (int story = 8; story < 12; story++) {
            x.kill(story);
        }
        return x;
    }

    /** A text of 120 characters with an error at its end, and one story. */
    private static NewspaperMakeup fullText() {
        NewspaperMakeup x = new NewspaperMakeup();
        x.addStory(7, 2, 3);
        x.make();
        Checks.type(x, "5@1:4,3;" + " ".repeat(111) + "6");
        return x;
    }

    // ---- The 512 calls

    private static void calls512() {
        checks.sentence("An object is used for at most 512 calls after it has been made");
        NewspaperMakeup x = new NewspaperMakeup();
        for (int call = 1; call <= 511; call++) {
            due("make", x.make(), 0);
        }
        due("the 512th call", x.count(5), 511);
        NewspaperMakeup y = new NewspaperMakeup();
        y.addStory(1, 0, 1);
        for (int call = 2; call <= 510; call++) {
            y.setRank(0, 1 + call % 99);
        }
        due("the 511th call", y.undo(), 5);
        due("the 512th call", y.story(0, 0), 1 + 509 % 99);
    }

    // ---- Undo

    private static final String[] SAVING = {"setPages", "addStory", "setRank", "setHome",
        "addParagraph", "setParagraph", "setParagraph to 0", "kill", "revive", "load", "make"};

    /** The calls that save a state, with arguments that busy() takes. */
    private static int saving(NewspaperMakeup x, int call) {
        switch (call) {
            case 0:
                return x.setPages(4, 3, 25);
            case 1:
                return x.addStory(2, 1, 7);
            case 2:
                return x.setRank(5, 1);
            case 3:
                return x.setHome(1, 2);
            case 4:
                return x.addParagraph(5, 3);
            case 5:
                return x.setParagraph(5, 1, 9);
            case 6:
                return x.setParagraph(7, 0, 0);
            case 7:
                return x.kill(3);
            case 8:
                return x.revive(0);
            case 9:
                return x.load();
            default:
                return x.make();
        }
    }

    private static void successfulCallsSave() {
        checks.sentence("Every successful call of setPages(), addStory(), setRank(), setHome(), "
                + "addParagraph(), setParagraph(), kill(), revive(), load() and make() saves the "
                + "state that preceded it");
        for (int call = 0; call < SAVING.length; call++) {
            NewspaperMakeup x = busy();
            int saved = x.count(7);
            due(SAVING[call] + " succeeds", saving(x, call) >= 0 ? 1 : 0, 1);
            due(SAVING[call] + " saves a state", x.count(7), saved + 1);
        }
        // Also those that leave all as it is.
        NewspaperMakeup x = new NewspaperMakeup();
        x.setPages(3, 2, 30);
        due("the same pages", x.count(7), 1);
        x.make();
        due("an edition without stories", x.count(7), 2);
        x.load();
        due("a text without stories", x.count(7), 3);
        x.addStory(5, 1, 4);
        x.setRank(0, 5);
        due("the same rank", x.count(7), 5);
        NewspaperMakeup y = new NewspaperMakeup();
        y.addStory(5, 1, 4);
        y.setHome(0, 1);
        due("the same home page", y.count(7), 2);
        y.setParagraph(0, 0, 4);
        due("the same length", y.count(7), 3);
    }

    private static void savedStateComesBack() {
        checks.sentence("Restores the most recently saved state and discards it.");
        String before = Snapshot.withoutText(busy());
        for (int call = 0; call < SAVING.length; call++) {
            NewspaperMakeup x = busy();
            int saved = x.count(7);
            saving(x, call);
            due("undo of " + SAVING[call], x.undo(), saved);
            due("saved behind undo of " + SAVING[call], x.count(7), saved);
            checks.due("undo of " + SAVING[call], Snapshot.withoutText(x), before);
            // The state behind the call is another one, so that there was something to undo.
            NewspaperMakeup y = busy();
            saving(y, call);
            due(SAVING[call] + " does something", Snapshot.withoutText(y).equals(before) ? 1 : 0,
                    0);
        }
    }

    private static void refusedCallsSaveNothing() {
        checks.sentence("Every successful call of setPages()");
        NewspaperMakeup x = new NewspaperMakeup();
        x.setPages(6, 1, 10);
        x.addStory(0, 0, 1);
        x.setRank(0, 1);
        x.setHome(0, 1);
        x.addParagraph(0, 1);
        x.setParagraph(0, 0, 1);
        x.kill(0);
        x.revive(0);
        x.appendCharacter('x');
        x.load();
        due("no state", x.count(7), 0);
        due("no state", x.undo(), STATE);
        x.addStory(1, 2, 1);
        x.setPages(2, 1, 10);
        x.setParagraph(0, 0, 0);
        x.revive(0);
        due("one state", x.count(7), 1);
        x.kill(0);
        x.kill(0);
        due("two states", x.count(7), 2);
    }

    private static void otherCallsSaveNothing() {
        checks.sentence("saves the state that preceded it");
        NewspaperMakeup x = busy();
        int saved = x.count(7);
        x.appendCharacter('1');
        x.clearText();
        x.clearText();
        x.next(0);
        x.piecesWith(1, 1);
        x.roomFor(1);
        x.story(0, 0);
        x.paragraph(0, 0);
        x.edition(0);
        x.pieces(0);
        x.piece(0, 0, 0);
        x.at(0, 0, 0);
        x.longestGap(0);
        x.wasMoved(0);
        due("as many", x.count(7), saved);
        due("undo itself saves none", x.undo(), saved - 1);
        due("undo itself saves none", x.undo(), saved - 2);
    }

    private static void everythingButTheText() {
        checks.sentence("which consists of everything but the text.");
        NewspaperMakeup x = new NewspaperMakeup();
        Checks.type(x, "1@0");
        x.addStory(1, 0, 1);
        Checks.type(x, ":1;");
        due("undo", x.undo(), 0);
        due("the text goes on", x.count(6), 6);
        due("it is whole", x.load(), 1);
        due("undo", x.undo(), 0);
        due("the text does not come back", x.count(6), 0);
        Checks.type(x, "2@0:1;");
        x.addStory(1, 0, 1);
        due("clear", x.clearText(), 6);
        due("undo", x.undo(), 0);
        due("the text does not come back", x.clearText(), 0);
        // The edition, its number and what was changed since come back.
        NewspaperMakeup y = Checks.loaded(2, 1, 20, "1@0:9;2@0:5;");
        y.make();
        y.kill(0);
        y.setHome(1, 0);
        y.make();
        due("placed anew", y.piece(1, 0, 2), 0);
        due("number", y.count(5), 2);
        y.undo();
        due("number", y.count(5), 1);
        due("as it was", y.piece(1, 0, 2), 9);
        due("story 0 was there", y.pieces(0), 1);
        due("story 1 is changed", y.next(1), 1);
        y.undo();
        due("story 1 is not changed", y.next(1), 0);
    }

    private static void everythingOfTheTwelfthStory() {
        checks.sentence("everything but the text");
        NewspaperMakeup x = new NewspaperMakeup();
        x.setPages(2, 1, 20);
        for (int story = 0; story < 12; story++) {
            x.addStory(story == 0 ? 1 : story == 11 ? 2 : 3, story == 11 ? 0 : story % 2, 3);
        }
        for (int paragraph = 1; paragraph < 8; paragraph++) {
            x.addParagraph(11, 1);
        }
        x.make();
        due("below story 0", x.piece(11, 0, 2), 3);
        x.kill(0);
        for (int call = 0; call < 6; call++) {
            int answer = call == 0 ? x.setRank(11, 9) : call == 1 ? x.setHome(11, 0)
                    : call == 2 ? x.setParagraph(11, 7, 2) : call == 3 ? x.setParagraph(11, 7, 0)
                    : call == 4 ? x.kill(11) : x.make();
            due("call " + call, answer >= 0 ? 1 : 0, 1);
            x.undo();
            due("rank", x.story(11, 0), 2);
            due("paragraphs", x.story(11, 2), 8);
            due("the eighth", x.paragraph(11, 7), 1);
            due("alive", x.story(11, 4), 1);
            due("not changed: it would not be moved", x.next(1), 0);
        }
    }

    private static void atMostSixStates() {
        checks.sentence("At most 6 states are saved");
        NewspaperMakeup x = new NewspaperMakeup();
        for (int rank = 1; rank <= 20; rank++) {
            if (rank == 1) {
                x.addStory(rank, 0, 1);
            } else {
                x.setRank(0, rank);
            }
            due("saved", x.count(7), Math.min(rank, 6));
        }
    }

    private static void oldestIsDiscarded() {
        checks.sentence("when a seventh is saved, the oldest one is discarded.");
        for (int calls = 1; calls <= 14; calls++) {
            NewspaperMakeup x = new NewspaperMakeup();
            for (int home = 0; home < calls; home++) {
                x.setPages(2, 1, 11 + home);
            }
            int undone = Math.min(calls, 6);
            for (int i = 1; i <= undone; i++) {
                due("undo", x.undo(), undone - i);
                due("H", x.count(2), calls == i ? 30 : 10 + calls - i);
            }
            due("no more", x.undo(), STATE);
            due("H", x.count(2), calls <= 6 ? 30 : 10 + calls - 6);
        }
        // A state that is saved behind an undo comes behind those that are left.
        NewspaperMakeup x = new NewspaperMakeup();
        for (int lines = 11; lines <= 18; lines++) {
            x.setPages(2, 1, lines);
        }
        x.undo();
        x.undo();
        x.setPages(2, 1, 50);
        x.setPages(2, 1, 51);
        x.setPages(2, 1, 52);
        due("saved", x.count(7), 6);
        int[] want = {51, 50, 16, 15, 14, 13};
        for (int i = 0; i < want.length; i++) {
            due("undo", x.undo(), 5 - i);
            due("H", x.count(2), want[i]);
        }
        due("no more", x.undo(), STATE);
    }

    private static void mostRecentFirst() {
        checks.sentence("undo() restores the most recently saved state and discards it.");
        NewspaperMakeup x = new NewspaperMakeup();
        x.addStory(1, 0, 1);
        x.addStory(2, 0, 2);
        x.setRank(0, 9);
        x.undo();
        due("rank", x.story(0, 0), 1);
        due("stories", x.count(3), 2);
        x.undo();
        due("stories", x.count(3), 1);
        due("no such story", x.story(1, 0), INVALID);
        x.addStory(3, 1, 3);
        due("rank", x.story(1, 0), 3);
        x.undo();
        x.undo();
        due("stories", x.count(3), 0);
        due("no more", x.undo(), STATE);
    }

    private static void undoNothing() {
        checks.sentence("Returns the number of states that are still saved; ILLEGAL_STATE if there "
                + "is none.");
        NewspaperMakeup x = new NewspaperMakeup();
        due("a new object", x.undo(), STATE);
        due("again", x.undo(), STATE);
        x.make();
        due("one", x.undo(), 0);
        due("none", x.undo(), STATE);
        due("none", x.count(7), 0);
        due("edition", x.count(5), 0);
    }

    private static void undoReturns() {
        checks.sentence("Returns the number of states that are still saved");
        for (int calls = 1; calls <= 9; calls++) {
            NewspaperMakeup x = new NewspaperMakeup();
            for (int i = 0; i < calls; i++) {
                x.make();
            }
            for (int left = Math.min(6, calls) - 1; left >= 0; left--) {
                due("undo", x.undo(), left);
                due("saved", x.count(7), left);
                due("edition", x.count(5), calls - Math.min(6, calls) + left);
            }
        }
    }

    // ---- Errors

    private static void constants() {
        checks.sentence("The constants:");
        due("INVALID_ARGUMENT", NewspaperMakeup.INVALID_ARGUMENT, -1);
        due("ILLEGAL_STATE", NewspaperMakeup.ILLEGAL_STATE, -2);
        due("CAPACITY_EXCEEDED", NewspaperMakeup.CAPACITY_EXCEEDED, -3);
        due("NONE", NewspaperMakeup.NONE, -9);
    }

    /** The objects of a scenario, and what they answer when nothing was done with them. */
    private static final class Refusals {
        private final Supplier<NewspaperMakeup> scenario;
        private final String before;

        Refusals(Supplier<NewspaperMakeup> scenario) {
            this.scenario = scenario;
            before = Snapshot.after(scenario, x -> 0);
        }

        void due(String name, int want, Snapshot.Call call) {
            checks.due(name, call.on(scenario.get()), want);
            checks.due(name + " changes nothing", Snapshot.after(scenario, call), before);
        }
    }

    private static void refusedOnANewObject() {
        checks.sentence("A method that returns an error code changes nothing.");
        Refusals of = new Refusals(NewspaperMakeup::new);
        of.due("setPages", INVALID, x -> x.setPages(1, 2, 30));
        of.due("setRank", INVALID, x -> x.setRank(0, 1));
        of.due("setHome", INVALID, x -> x.setHome(0, 1));
        of.due("addParagraph", INVALID, x -> x.addParagraph(0, 1));
        of.due("setParagraph", INVALID, x -> x.setParagraph(0, 0, 1));
        of.due("kill", INVALID, x -> x.kill(0));
        of.due("revive", INVALID, x -> x.revive(0));
        of.due("edition", STATE, x -> x.edition(0));
        of.due("pieces", INVALID, x -> x.pieces(0));
        of.due("piece", INVALID, x -> x.piece(0, 0, 0));
        of.due("at", STATE, x -> x.at(0, 0, 0));
        of.due("longestGap", STATE, x -> x.longestGap(0));
        of.due("wasMoved", INVALID, x -> x.wasMoved(0));
        of.due("piecesWith", INVALID, x -> x.piecesWith(0, 1));
        of.due("roomFor", INVALID, x -> x.roomFor(0));
        of.due("undo", STATE, x -> x.undo());
    }

    private static void refusedOnABusyOne() {
        checks.sentence("A method that returns an error code changes nothing.");
        Refusals of = new Refusals(UndoAndErrorBoundariesTest::busy);
        of.due("setPages: pages", INVALID, x -> x.setPages(6, 4, 60));
        of.due("setPages: columns", INVALID, x -> x.setPages(5, 5, 60));
        of.due("setPages: lines", INVALID, x -> x.setPages(5, 4, 61));
        of.due("setPages: a home page", STATE, x -> x.setPages(2, 4, 60));
        of.due("addStory: rank", INVALID, x -> x.addStory(100, 0, 1));
        of.due("addStory: home", INVALID, x -> x.addStory(1, 3, 1));
        of.due("addStory: lines", INVALID, x -> x.addStory(1, 0, 31));
        of.due("setRank: story", INVALID, x -> x.setRank(9, 1));
        of.due("setRank: rank", INVALID, x -> x.setRank(5, 0));
        of.due("setHome: story", INVALID, x -> x.setHome(-1, 1));
        of.due("setHome: home", INVALID, x -> x.setHome(1, 3));
        of.due("addParagraph: story", INVALID, x -> x.addParagraph(9, 1));
        of.due("addParagraph: lines", INVALID, x -> x.addParagraph(1, 0));
        of.due("setParagraph: story", INVALID, x -> x.setParagraph(9, 0, 1));
        of.due("setParagraph: paragraph", INVALID, x -> x.setParagraph(5, 2, 1));
        of.due("setParagraph: lines", INVALID, x -> x.setParagraph(5, 1, 31));
        of.due("setParagraph: the only one", STATE, x -> x.setParagraph(1, 0, 0));
        of.due("kill: story", INVALID, x -> x.kill(9));
        of.due("kill: killed", STATE, x -> x.kill(0));
        of.due("revive: story", INVALID, x -> x.revive(9));
        of.due("revive: alive", STATE, x -> x.revive(1));
        of.due("story: story", INVALID, x -> x.story(9, 0));
        of.due("story: what", INVALID, x -> x.story(0, 6));
        of.due("paragraph: story", INVALID, x -> x.paragraph(9, 0));
        of.due("paragraph: negative", INVALID, x -> x.paragraph(0, -1));
        of.due("count", INVALID, x -> x.count(8));
        of.due("appendCharacter", INVALID, x -> x.appendCharacter(256));
        of.due("edition", INVALID, x -> x.edition(6));
        of.due("pieces", INVALID, x -> x.pieces(9));
        of.due("piece", INVALID, x -> x.piece(1, 0, 8));
        of.due("at", INVALID, x -> x.at(3, 0, 0));
        of.due("longestGap", INVALID, x -> x.longestGap(3));
        of.due("wasMoved", INVALID, x -> x.wasMoved(9));
        of.due("next", INVALID, x -> x.next(3));
        of.due("piecesWith: rank", INVALID, x -> x.piecesWith(1, 100));
        of.due("piecesWith: killed", STATE, x -> x.piecesWith(0, 1));
        of.due("roomFor: story", INVALID, x -> x.roomFor(9));
        of.due("roomFor: killed", STATE, x -> x.roomFor(0));
    }

    private static void refusedOnAFullOne() {
        checks.sentence("A method that returns an error code changes nothing.");
        Refusals of = new Refusals(UndoAndErrorBoundariesTest::full);
        of.due("addStory", FULL, x -> x.addStory(1, 0, 1));
        of.due("addParagraph", FULL, x -> x.addParagraph(0, 1));
        of.due("roomFor: eight paragraphs", STATE, x -> x.roomFor(0));
        of.due("kill: killed", STATE, x -> x.kill(11));
        of.due("load: a thirteenth story", -10, x -> {
            x.appendCharacter('1');
            int answer = x.load();
            x.clearText();
            return answer;
        });
    }

    private static void refusedOnAFullText() {
        checks.sentence("A method that returns an error code changes nothing.");
        Refusals of = new Refusals(UndoAndErrorBoundariesTest::fullText);
        of.due("appendCharacter", FULL, x -> x.appendCharacter(';'));
        of.due("appendCharacter", INVALID, x -> x.appendCharacter(-1));
        of.due("load", -130, x -> x.load());
    }

    private static void firstNamedGoesFirst() {
        checks.sentence("If several error codes apply, the one that is named first in the "
                + "description of the method is returned");
        NewspaperMakeup x = new NewspaperMakeup();
        x.addStory(1, 2, 1);
        due("setPages: range, home page", x.setPages(2, 1, 9), INVALID);
        due("setPages: range, home page", x.setPages(1, 1, 10), INVALID);
        due("edition: range, no edition", x.edition(6), INVALID);
        due("pieces: no story, no edition", x.pieces(1), INVALID);
        due("piece: no story, no edition", x.piece(1, 0, 0), INVALID);
        due("piece: negative, no edition", x.piece(0, -1, 0), INVALID);
        due("piece: range, no edition", x.piece(0, 0, 8), INVALID);
        due("at: no edition, no page", x.at(3, 0, 0), STATE);
        due("at: no edition, no column", x.at(0, 2, 0), STATE);
        due("at: no edition, no line", x.at(0, 0, 30), STATE);
        due("longestGap: no edition, no page", x.longestGap(3), STATE);
        due("wasMoved: no story, no edition", x.wasMoved(1), INVALID);
        due("setParagraph: no paragraph, the only one", x.setParagraph(0, 1, 0), INVALID);
        x.kill(0);
        due("piecesWith: range, killed", x.piecesWith(0, 0), INVALID);
        due("piecesWith: range, killed", x.piecesWith(0, 100), INVALID);
        NewspaperMakeup y = full();
        due("addStory: rank, full", y.addStory(0, 0, 1), INVALID);
        due("addStory: home, full", y.addStory(1, 2, 1), INVALID);
        due("addStory: lines, full", y.addStory(1, 0, 31), INVALID);
        due("addParagraph: lines, full", y.addParagraph(0, 31), INVALID);
        NewspaperMakeup z = fullText();
        due("appendCharacter: range, full", z.appendCharacter(256), INVALID);
    }

    private static void noneOnlyIfNoErrorApplies() {
        checks.sentence("NONE is no error, and it is returned only if no error code applies.");
        NewspaperMakeup x = new NewspaperMakeup();
        x.addStory(1, 0, 1);
        due("paragraph: no story", x.paragraph(1, 8), INVALID);
        due("paragraph: negative", x.paragraph(0, -1), INVALID);
        due("paragraph", x.paragraph(0, 1), NONE);
        due("pieces: no edition, not there", x.pieces(0), STATE);
        due("piece: no edition, no such piece", x.piece(0, 1, 0), STATE);
        due("wasMoved: no edition, not printed", x.wasMoved(0), STATE);
        due("at: no edition, free", x.at(2, 1, 29), STATE);
        x.make();
        x.addStory(1, 0, 1);
        due("pieces: no story", x.pieces(2), INVALID);
        due("pieces", x.pieces(1), NONE);
        due("piece: no story", x.piece(2, 0, 0), INVALID);
        due("piece: range", x.piece(0, 1, 8), INVALID);
        due("piece: range, not there", x.piece(1, 0, -1), INVALID);
        due("piece: negative, not there", x.piece(1, -1, 0), INVALID);
        due("piece", x.piece(0, 1, 0), NONE);
        due("piece: leads nowhere", x.piece(0, 0, 6), NONE);
        due("wasMoved: no story", x.wasMoved(2), INVALID);
        due("wasMoved", x.wasMoved(1), NONE);
        due("at: no line", x.at(2, 1, 30), INVALID);
        due("at", x.at(2, 1, 29), NONE);
    }

    private static void questionsChangeNothing() {
        checks.sentence("---- what would be (nothing changes)");
        Refusals of = new Refusals(UndoAndErrorBoundariesTest::busy);
        of.due("next held over", 1, x -> x.next(0));
        of.due("next moved", 1, x -> x.next(1));
        of.due("next free", 180 - 30 - 20 - 10 - 23 - 13 - 1 - 10, x -> x.next(2));
        of.due("piecesWith", 2, x -> x.piecesWith(5, 99));
        of.due("roomFor", 29, x -> x.roomFor(8));
        of.due("at", 2, x -> x.at(0, 1, 0));
        of.due("longestGap", 0, x -> x.longestGap(0));
        of.due("NONE", NONE, x -> x.paragraph(1, 1));
    }
}

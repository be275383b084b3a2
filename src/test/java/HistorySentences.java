import java.util.function.Consumer;

/** Sentences of the term on the history: an empty one, a full one, and what is recorded. */
final class HistorySentences {
    private static final String HISTORY = "HISTORY";
    private static final String KEPT = "A history of at most 5 states is kept; when one more is recorded, the oldest one is "
        + "dropped; undo() removes and restores the latest one.";
    private static final String STATE = "A state consists of everything but the text buffer and the history.";
    private static final String RECORDS = "Each method that is described as a modification records the state before it, "
        + "also if the state remains the same, unless it throws an exception.";

    private HistorySentences() {
    }

    static void run() {
        Document.test(HISTORY, KEPT, "5 states", HistorySentences::fiveStates);
        Document.test(HISTORY, KEPT, "the oldest one is dropped", HistorySentences::oldestDropped);
        Document.test(HISTORY, KEPT, "the latest one is restored and removed", HistorySentences::latestRemoved);
        Document.test(HISTORY, KEPT, "again and again", HistorySentences::againAndAgain);
        Document.test(HISTORY, STATE, "everything", HistorySentences::everything);
        Document.test(HISTORY, STATE, "the order of the changes", HistorySentences::order);
        Document.test(HISTORY, STATE, "what is aside", HistorySentences::aside);
        Document.test(HISTORY, STATE, "not the text buffer", HistorySentences::notTheText);
        Document.test(HISTORY, STATE, "not the history", HistorySentences::notTheHistory);
        Document.test(HISTORY, RECORDS, "each modification", HistorySentences::eachModification);
        Document.test(HISTORY, RECORDS, "the state before it", HistorySentences::stateBefore);
        Document.test(HISTORY, RECORDS, "the state remains the same", HistorySentences::sameState);
        Document.test(HISTORY, RECORDS, "nothing else records", HistorySentences::nothingElse);
    }

    private static void fiveStates() {
        ParrotCounts x = new ParrotCounts();
        for (int modifications = 1; modifications <= 9; modifications++) {
            x.hear(0);
            Checks.same(Math.min(modifications, 5), x.historySize(), "states");
        }
    }

    private static void oldestDropped() {
        ParrotCounts x = new ParrotCounts();
        for (int heard = 0; heard < 6; heard++) {
            x.hear(heard);
        }
        for (int remain = 4; remain >= 0; remain--) {
            Checks.same(remain, x.undo(), "states that remain");
        }
        Checks.fails(IllegalStateException.class, x::undo, "the state of the new object is dropped");
        Checks.same(1, x.calls(), "the oldest one kept is that behind the first call");
        Checks.same(1, x.trueCount(0), "of a");
    }

    private static void latestRemoved() {
        ParrotCounts x = new ParrotCounts();
        x.hear(0);
        x.empty(9);
        x.hear(1);
        Checks.same(2, x.undo(), "states that remain");
        Checks.same(0, x.calls(), "b is not heard");
        Checks.same(9, x.capacity(), "the lists are empty still");
        Checks.same(1, x.undo(), "states that remain");
        Checks.same(4, x.capacity(), "the capacity before");
        Checks.same(1, x.calls(), "a is heard");
        Checks.same(0, x.undo(), "states that remain");
        Checks.same(0, x.calls(), "nothing is heard");
    }

    private static void againAndAgain() {
        ParrotCounts x = new ParrotCounts();
        int kept = 0;
        for (int round = 0; round < 20; round++) {
            for (int heard = 0; heard < 7; heard++) {
                x.hear((round + heard) % Given.PARROTS);
            }
            Checks.same(5, x.historySize(), "a full history");
            for (int back = 1; back <= round % 6; back++) {
                Checks.same(5 - back, x.undo(), "states that remain in round " + round);
                Checks.same(kept + 7 - back, x.calls(), "calls in round " + round);
            }
            kept += 7 - round % 6;
            Checks.same(kept, x.calls(), "calls behind round " + round);
        }
    }

    private static ParrotCounts restored(Consumer<ParrotCounts> modification) {
        ParrotCounts x = Given.busy();
        modification.accept(x);
        x.undo();
        return x;
    }

    private static void isRestored(Consumer<ParrotCounts> modification, String what) {
        Checks.same(Given.deepView(Given.busy()), Given.deepView(restored(modification)), "what is restored behind " + what);
        ParrotCounts x = restored(modification);
        ParrotCounts y = Given.busy();
        x.hear(5);
        y.hear(5);
        Checks.same(Given.deepView(y), Given.deepView(x), "and how it goes on");
    }

    private static void everything() {
        isRestored(x -> x.hear(0), "hear");
        isRestored(ParrotCounts::hearSong, "hearSong");
        isRestored(x -> x.empty(9), "empty");
        isRestored(ParrotCounts::putAside, "putAside");
        isRestored(ParrotCounts::mergeIn, "mergeIn");
    }

    private static void order() {
        orderIsRestored(x -> x.hear(2), "hear");
        orderIsRestored(ParrotCounts::hearSong, "hearSong");
        orderIsRestored(x -> x.empty(9), "empty");
        orderIsRestored(ParrotCounts::putAside, "putAside");
        orderIsRestored(ParrotCounts::mergeIn, "mergeIn");
    }

    private static ParrotCounts undone(String song, Consumer<ParrotCounts> modification) {
        ParrotCounts x = Given.withCapacity(2);
        x.putAside();
        Given.sing(x, song);
        modification.accept(x);
        x.undo();
        return x;
    }

    private static void orderIsRestored(Consumer<ParrotCounts> modification, String what) {
        Checks.same(2, undone("2c2b2a", modification).nextTakenOver(), "c is the oldest one again behind " + what);
        ParrotCounts x = undone("c2b2a", modification);
        x.hear(2);
        Checks.same(1, x.nextTakenOver(), "c is younger then than what was heard before " + what);
    }

    private static void aside() {
        ParrotCounts x = new ParrotCounts();
        Given.sing(x, "3a2b");
        x.putAside();
        Given.sing(x, "9z");
        x.putAside();
        x.empty(4);
        x.undo();
        Checks.same(true, x.hasAside(), "what was forgotten is aside again");
        x.undo();
        Checks.same(14, x.mergeIn(), "and what was aside before");
        x.undo();
        Checks.same(true, x.hasAside(), "what was merged in is aside again");
        Checks.same(9, x.calls(), "calls");
        x.undo();
        x.undo();
        Checks.same(false, x.hasAside(), "nothing was aside");
        Checks.same(5, x.calls(), "calls");
    }

    private static void notTheText() {
        ParrotCounts x = Given.withText("2a");
        x.hearSong();
        Given.write(x, "3b");
        x.undo();
        Checks.same(3, x.callsOfSong(), "the text remains as it is now");
        x.hear(0);
        x.clearText();
        x.undo();
        Checks.same(0, x.clearText(), "a text that is cleared remains so");
    }

    private static void notTheHistory() {
        ParrotCounts x = new ParrotCounts();
        x.hear(0);
        x.hear(1);
        x.undo();
        x.undo();
        Checks.fails(IllegalStateException.class, x::undo, "a restored state brings no history with it");
        x.hear(2);
        Checks.same(0, x.undo(), "only the state before c was recorded");
    }

    private static void records(Consumer<ParrotCounts> modification, String what) {
        ParrotCounts x = Given.withText("2a");
        x.putAside();
        modification.accept(x);
        Checks.same(2, x.historySize(), what + " records one state");
        x.empty(4);
        x.empty(4);
        x.empty(4);
        modification.accept(Given.write(x, "3b"));
        Checks.same(5, x.historySize(), what + " and a full history");
    }

    private static void eachModification() {
        records(x -> x.hear(0), "hear");
        records(ParrotCounts::hearSong, "hearSong");
        records(x -> x.empty(9), "empty");
        records(ParrotCounts::putAside, "putAside");
        ParrotCounts x = new ParrotCounts();
        x.putAside();
        x.mergeIn();
        Checks.same(2, x.historySize(), "mergeIn records one state");
    }

    private static void stateBefore() {
        ParrotCounts x = Given.withText("9(ab)");
        x.hearSong();
        x.hearSong();
        Checks.same(36, x.calls(), "calls");
        x.undo();
        Checks.same(18, x.calls(), "the song is heard once, as before the second time");
        x.undo();
        Checks.same(0, x.calls(), "as before the first time");
    }

    private static void sameState() {
        ParrotCounts x = new ParrotCounts();
        x.empty(4);
        Checks.same(1, x.historySize(), "empty lists are emptied");
        x.putAside();
        x.putAside();
        Checks.same(3, x.historySize(), "empty lists are put aside in place of empty lists");
        x.undo();
        Checks.same(true, x.hasAside(), "empty lists are aside as before");
        x.undo();
        Checks.same(false, x.hasAside(), "nothing was aside");
        Checks.same(0, x.undo(), "states that remain");
    }

    private static void nothingElse() {
        ParrotCounts x = Given.withText("ab");
        Given.sing(x, "a2b3c4d5ef");
        x.isValid();
        x.callsOfSong();
        x.clearText();
        x.firstError();
        Given.view(x);
        x.loudest(0);
        x.surelyAbove(0);
        x.perhapsAbove(0);
        x.trulyAbove(0);
        Checks.same(1, x.historySize(), "only the song was a modification");
        x.hear(0);
        x.undo();
        Checks.same(1, x.historySize(), "undo is none");
    }
}

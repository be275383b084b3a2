/** Promises 12 and 35. */
final class HistoryTest {
    private HistoryTest() {
    }

    static void run() {
        Checks.test("promise 12: undo restores state by state", HistoryTest::undo);
        Checks.test("promise 12: undo restores all that a state consists of", HistoryTest::undoAll);
        Checks.test("promise 12: undo restores the order of changes", HistoryTest::undoOrder);
        Checks.test("promise 12: undo reaches back five states", HistoryTest::undoFive);
        Checks.test("promise 12: undo refuses an empty history", HistoryTest::undoNothing);
        Checks.test("promise 12: what is undone is not kept", HistoryTest::undoForGood);
        Checks.test("promise 35: historySize counts up to five", HistoryTest::historySize);
        Checks.test("promise 35: what leaves the state as it was is recorded too", HistoryTest::sameState);
    }

    private static void undo() {
        ParrotCounts x = new ParrotCounts();
        x.hear(0);
        x.hear(1);
        x.hear(1);
        Checks.same(2, x.undo(), "states that remain");
        Checks.same(1, x.trueCount(1), "b");
        Checks.same(1, x.undo(), "states that remain");
        Checks.same(0, x.trueCount(1), "b");
        Checks.same(0, x.undo(), "states that remain");
        Checks.same(0, x.calls(), "calls");
    }

    private interface Modification {
        void on(ParrotCounts x);
    }

    private static void undoAll() {
        undoes(x -> x.hear(9), "hear");
        undoes(x -> x.hear(0), "hear again");
        undoes(ParrotCounts::hearSong, "hearSong");
        undoes(x -> x.empty(9), "empty");
        undoes(ParrotCounts::putAside, "putAside");
        undoes(ParrotCounts::mergeIn, "mergeIn");
    }

    private static void undoes(Modification modification, String what) {
        ParrotCounts x = Given.busy();
        modification.on(x);
        Checks.same(4, x.undo(), "states that remain behind " + what);
        Checks.same(Given.deepView(Given.busy()), Given.deepView(x), "what is restored behind " + what);
    }

    private static void undoOrder() {
        ParrotCounts x = Given.sung(2, "cab");
        x.hear(2);
        x.hear(1);
        x.undo();
        x.undo();
        Checks.same(2, x.nextTakenOver(), "c is the oldest one again");
        x.hear(5);
        Checks.same(0, x.nextTakenOver(), "then a");
    }

    private static void undoFive() {
        ParrotCounts x = new ParrotCounts();
        for (int i = 0; i < 12; i++) {
            x.hear(i);
        }
        for (int remain = 4; remain >= 0; remain--) {
            Checks.same(remain, x.undo(), "states that remain");
            Checks.same(7 + remain, x.calls(), "calls");
        }
        Checks.fails(IllegalStateException.class, x::undo, "the sixth one");
        Checks.same(7, x.calls(), "calls");
    }

    private static void undoNothing() {
        ParrotCounts x = new ParrotCounts();
        Checks.fails(IllegalStateException.class, x::undo, "a new object");
        x.hear(0);
        x.undo();
        Checks.fails(IllegalStateException.class, x::undo, "again");
        Checks.same(0, x.historySize(), "history");
        x.hear(3);
        Checks.same(1, x.historySize(), "history");
    }

    private static void undoForGood() {
        ParrotCounts x = new ParrotCounts();
        x.hear(0);
        x.hear(1);
        x.undo();
        x.hear(2);
        Checks.same(2, x.historySize(), "history");
        x.undo();
        Checks.same(1, x.calls(), "only a");
        x.undo();
        Checks.same(0, x.calls(), "nothing");
    }

    private static void historySize() {
        ParrotCounts x = Given.withText("a");
        Checks.same(0, x.historySize(), "a new object");
        x.hear(0);
        Checks.same(1, x.historySize(), "hear");
        x.hearSong();
        Checks.same(2, x.historySize(), "hearSong");
        x.putAside();
        Checks.same(3, x.historySize(), "putAside");
        x.mergeIn();
        Checks.same(4, x.historySize(), "mergeIn");
        x.empty(4);
        Checks.same(5, x.historySize(), "empty");
        x.empty(4);
        Checks.same(5, x.historySize(), "the oldest one is dropped");
        x.undo();
        Checks.same(4, x.historySize(), "undo is no modification");
    }

    private static void sameState() {
        ParrotCounts x = new ParrotCounts();
        x.empty(4);
        x.empty(4);
        Checks.same(2, x.historySize(), "two states that are alike");
        x.putAside();
        x.putAside();
        Checks.same(4, x.historySize(), "four states");
    }
}

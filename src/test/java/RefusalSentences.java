import java.util.NoSuchElementException;
import java.util.function.Function;
import java.util.function.Supplier;

/** Sentences on exceptions: when a call is refused, which exception is the due one, and that nothing changes. */
final class RefusalSentences {
    private static final String EXCEPTIONS = "EXCEPTIONS";
    private static final String CHANGES_NOTHING = "A method that throws an exception changes nothing.";
    private static final String FIRST_LISTED = "If several exceptions apply, the one that is listed first in the method's "
        + "throws clause is thrown.";
    private static final String NO_PARROT = "Throws `IndexOutOfBoundsException` if there is no such parrot";
    private static final String NO_SONG = "Throws `IllegalArgumentException` if the buffer is not a song";
    private static final String SONG_TOO_LONG = "Throws `IllegalStateException` if the song has more than 1000 calls, or "
        + "more than 99999 calls would have been heard";
    private static final String NOT_MERGED = "Throws `IllegalStateException` if nothing is aside, or there would be more "
        + "than 99999 calls";
    private static final String NO_PERMILLE = "Throws `IllegalArgumentException` if permille is out of range";

    private static final int[] NO_PARROTS = {-1, 26, -26, 100, 1 << 16, Integer.MIN_VALUE, Integer.MAX_VALUE};
    private static final int[] NO_CAPACITIES = {0, 10, -1, -9, 100, Integer.MIN_VALUE, Integer.MAX_VALUE};
    private static final int[] NO_PERMILLES = {-1, 1001, -1000, 1 << 20, Integer.MIN_VALUE, Integer.MAX_VALUE};
    private static final String[] NO_SONGS = {"", "0a", "1a", "100a", "a2", "2(", "2()", "2(a", "a)", "(a)", "2(2(a))", "A"};

    private RefusalSentences() {
    }

    static void run() {
        Document.test("Promise 2", NO_PARROT, () -> noParrot(ParrotCounts::hear));
        Document.test("Promise 2", "Throws `IllegalStateException` if more than 99999 calls would have been heard",
            RefusalSentences::tooManyCalls);
        Document.test("Promise 3", NO_SONG, () -> noSong(ParrotCounts::hearSong));
        Document.test("Promise 3", SONG_TOO_LONG, "1000 calls", RefusalSentences::songTooLong);
        Document.test("Promise 3", SONG_TOO_LONG, "99999 calls", RefusalSentences::tooManyCallsOfSong);
        Document.test("Promise 4", "Throws `IllegalArgumentException` if capacity is out of range",
            RefusalSentences::noCapacity);
        Document.test("Promise 6", NOT_MERGED, "nothing is aside", RefusalSentences::nothingAside);
        Document.test("Promise 6", NOT_MERGED, "99999 calls", RefusalSentences::tooManyMerged);
        Document.test("Promise 7", "Throws `IllegalStateException` if the buffer has 60 characters",
            RefusalSentences::fullText);
        Document.test("Promise 10", "Throws `IllegalStateException` if the buffer is a song", RefusalSentences::noError);
        Document.test("Promise 11", NO_SONG, () -> noSong(ParrotCounts::callsOfSong));
        Document.test("Promise 12", "Throws `IllegalStateException` if the history is empty",
            RefusalSentences::emptyHistory);
        queries();
        Document.test(EXCEPTIONS, "IndexOutOfBoundsException is thrown if there is no parrot with a given number; "
            + "IllegalArgumentException if another argument is out of range.", RefusalSentences::kinds);
        firstListed();
        changesNothing();
    }

    private static void queries() {
        Document.test("Promise 14", NO_PARROT, () -> noParrot(ParrotCounts::estimate));
        Document.test("Promise 15", NO_PARROT, () -> noParrot(ParrotCounts::sureCount));
        Document.test("Promise 16", NO_PARROT, () -> noParrot(ParrotCounts::surplus));
        Document.test("Promise 16", "Throws `NoSuchElementException` if it has no counter in the first list",
            RefusalSentences::noCounter);
        Document.test("Promise 18", "Throws `NoSuchElementException` if the first list has fewer counters than the "
            + "capacity plus 1", RefusalSentences::noneTakenOver);
        Document.test("Promise 19", "Throws `IllegalArgumentException` if position is negative",
            RefusalSentences::negativePosition);
        Document.test("Promise 19", "Throws `NoSuchElementException` if there are not so many counters",
            RefusalSentences::notSoManyCounters);
        Document.test("Promise 20", NO_PERMILLE, () -> noPermille(ParrotCounts::surelyAbove));
        Document.test("Promise 21", NO_PERMILLE, () -> noPermille(ParrotCounts::perhapsAbove));
        Document.test("Promise 22", NO_PERMILLE, () -> noPermille(ParrotCounts::trulyAbove));
        Document.test("Promise 24", NO_PARROT, () -> noParrot(ParrotCounts::wornCount));
        Document.test("Promise 25", NO_PARROT, () -> noParrot(ParrotCounts::aboveFloor));
        Document.test("Promise 28", NO_PARROT, () -> noParrot(ParrotCounts::trueCount));
    }

    private static void firstListed() {
        Document.test(EXCEPTIONS, FIRST_LISTED, "hear", RefusalSentences::firstOfHear);
        Document.test(EXCEPTIONS, FIRST_LISTED, "hearSong", RefusalSentences::firstOfHearSong);
        Document.test(EXCEPTIONS, FIRST_LISTED, "surplus", RefusalSentences::firstOfSurplus);
        Document.test(EXCEPTIONS, FIRST_LISTED, "loudest", RefusalSentences::firstOfLoudest);
    }

    private static void changesNothing() {
        Document.test(EXCEPTIONS, CHANGES_NOTHING, "hear", RefusalSentences::hearChangesNothing);
        Document.test(EXCEPTIONS, CHANGES_NOTHING, "hearSong", RefusalSentences::hearSongChangesNothing);
        Document.test(EXCEPTIONS, CHANGES_NOTHING, "empty", RefusalSentences::emptyChangesNothing);
        Document.test(EXCEPTIONS, CHANGES_NOTHING, "mergeIn", RefusalSentences::mergeInChangesNothing);
        Document.test(EXCEPTIONS, CHANGES_NOTHING, "append", RefusalSentences::appendChangesNothing);
        Document.test(EXCEPTIONS, CHANGES_NOTHING, "firstError and callsOfSong", RefusalSentences::textChangesNothing);
        Document.test(EXCEPTIONS, CHANGES_NOTHING, "undo", RefusalSentences::undoChangesNothing);
        Document.test(EXCEPTIONS, CHANGES_NOTHING, "the first list", RefusalSentences::firstListChangesNothing);
        Document.test(EXCEPTIONS, CHANGES_NOTHING, "shares of all calls", RefusalSentences::sharesChangeNothing);
        Document.test(EXCEPTIONS, CHANGES_NOTHING, "counts", RefusalSentences::countsChangeNothing);
    }

    private interface OfNumber {
        Object of(ParrotCounts x, int number);
    }

    private static void refusedNumbers(Class<? extends Exception> due, int[] numbers, OfNumber method) {
        for (int number : numbers) {
            Checks.fails(due, () -> method.of(new ParrotCounts(), number), number + " on a new object");
            Checks.fails(due, () -> method.of(Given.busy(), number), String.valueOf(number));
        }
    }

    private static void noParrot(OfNumber method) {
        refusedNumbers(IndexOutOfBoundsException.class, NO_PARROTS, method);
    }

    private static void noPermille(OfNumber method) {
        refusedNumbers(IllegalArgumentException.class, NO_PERMILLES, method);
    }

    private static void noCapacity() {
        refusedNumbers(IllegalArgumentException.class, NO_CAPACITIES, ParrotCounts::empty);
    }

    private static void noSong(Function<ParrotCounts, Object> method) {
        for (String text : NO_SONGS) {
            ParrotCounts x = Given.withText(text);
            Checks.fails(IllegalArgumentException.class, () -> method.apply(x), "the text " + text);
        }
    }

    private static void tooManyCalls() {
        ParrotCounts x = Given.withThousands(99);
        Given.sing(x, "2(99a99b99c99d99e)8z");
        Checks.same(99998, x.calls(), "calls");
        x.hear(0);
        Checks.same(99999, x.calls(), "one more is heard");
        Checks.fails(IllegalStateException.class, () -> x.hear(0), "of a parrot with a counter");
        Checks.fails(IllegalStateException.class, () -> x.hear(24), "of a parrot without one");
        x.putAside();
        x.hear(0);
        Checks.same(1, x.calls(), "those that are aside do not count");
        x.undo();
        x.mergeIn();
        Checks.fails(IllegalStateException.class, () -> x.hear(0), "those that were merged in do");
    }

    private static void songTooLong() {
        ParrotCounts x = Given.withText("10(99ab)");
        Checks.same(1000, x.hearSong(), "1000 calls");
        Given.write(x, "10(99ab)a");
        Checks.fails(IllegalStateException.class, x::hearSong, "1001 calls");
        Given.write(x, "99(" + "99a".repeat(18) + ")");
        Checks.fails(IllegalStateException.class, x::hearSong, "176418 calls");
        Checks.same(1000, x.calls(), "calls");
    }

    private static void tooManyCallsOfSong() {
        ParrotCounts x = Given.withThousands(99);
        Checks.fails(IllegalStateException.class, x::hearSong, "1000 calls more");
        Given.write(x, "9(99a12b)");
        Checks.same(99999, x.hearSong(), "999 calls more");
        Checks.fails(IllegalStateException.class, x::hearSong, "999 more again");
        Given.write(x, "a");
        Checks.fails(IllegalStateException.class, x::hearSong, "one more");
        x.undo();
        Checks.same(99001, x.hearSong(), "one more before that");
    }

    private static void nothingAside() {
        ParrotCounts x = Given.sung(2, "3abc");
        Checks.fails(IllegalStateException.class, x::mergeIn, "nothing was put aside");
        x.putAside();
        x.mergeIn();
        Checks.fails(IllegalStateException.class, x::mergeIn, "it was merged in");
        x.putAside();
        x.empty(2);
        Checks.fails(IllegalStateException.class, x::mergeIn, "it was forgotten");
        x.putAside();
        x.undo();
        Checks.fails(IllegalStateException.class, x::mergeIn, "it was undone");
        x.putAside();
        Checks.same(0, x.mergeIn(), "empty lists are something");
    }

    /** 50000 calls are aside, and 49000 and those of the last song are not. */
    private static ParrotCounts halfAside(String lastSong) {
        ParrotCounts x = Given.withThousands(50);
        x.putAside();
        for (int i = 0; i < 49; i++) {
            x.hearSong();
        }
        Given.sing(x, lastSong);
        return x;
    }

    private static void tooManyMerged() {
        Checks.same(99999, halfAside("9(99a12b)").mergeIn(), "49999 calls and 50000");
        ParrotCounts x = halfAside("10(99ab)");
        Checks.fails(IllegalStateException.class, x::mergeIn, "50000 calls and 50000");
        x.putAside();
        Checks.same(50000, x.mergeIn(), "the second ones alone");
        ParrotCounts y = Given.full();
        y.putAside();
        y.hear(0);
        Checks.fails(IllegalStateException.class, y::mergeIn, "1 call and 99999");
        y.undo();
        Checks.same(99999, y.mergeIn(), "none and 99999");
    }

    private static void fullText() {
        for (String last : new String[] {"a", "2", "(", ")", "!"}) {
            ParrotCounts x = Given.withText("a".repeat(58) + last);
            Checks.same(60, x.append('z'), "59 characters");
            Checks.fails(IllegalStateException.class, () -> x.append('z'), "60 characters");
            Checks.same(60, x.clearText(), "still");
            Checks.same(1, x.append('z'), "cleared");
        }
    }

    private static void noError() {
        for (String song : new String[] {"a", "2a", "2(a)", "99(99z)", "a".repeat(60)}) {
            ParrotCounts x = Given.withText(song);
            Checks.fails(IllegalStateException.class, x::firstError, "the song " + song);
        }
    }

    private static void emptyHistory() {
        ParrotCounts x = Given.withText("2a");
        Checks.fails(IllegalStateException.class, x::undo, "nothing was modified yet");
        x.hearSong();
        x.undo();
        Checks.fails(IllegalStateException.class, x::undo, "the only state is restored");
        for (int i = 0; i < 8; i++) {
            x.hear(i);
        }
        for (int i = 0; i < 5; i++) {
            x.undo();
        }
        Checks.fails(IllegalStateException.class, x::undo, "five states are restored");
    }

    private static void noCounter() {
        ParrotCounts x = Given.sung(1, "3a2b");
        Checks.fails(NoSuchElementException.class, () -> x.surplus(25), "z is not heard");
        Checks.same(0, x.surplus(1), "b has a counter");
        x.hear(2);
        Checks.fails(NoSuchElementException.class, () -> x.surplus(1), "b lost it to c");
        x.putAside();
        Checks.fails(NoSuchElementException.class, () -> x.surplus(0), "the counter of a is aside");
        x.mergeIn();
        Checks.same(0, x.surplus(0), "and is merged in");
        x.empty(1);
        Checks.fails(NoSuchElementException.class, () -> x.surplus(0), "it is emptied");
        ParrotCounts y = Given.sung(1, "3a2b");
        y.putAside();
        Given.sing(y, "2c");
        y.mergeIn();
        Checks.fails(NoSuchElementException.class, () -> y.surplus(1), "b did not stay when the lists were merged");
    }

    private static void noneTakenOver() {
        for (int capacity = 1; capacity <= 9; capacity++) {
            ParrotCounts x = Given.withCapacity(capacity);
            for (int parrot = 0; parrot <= capacity; parrot++) {
                Checks.fails(NoSuchElementException.class, x::nextTakenOver, parrot + " counters of " + capacity + " + 1");
                x.hear(parrot);
            }
            Checks.same(0, x.nextTakenOver(), "the list is full");
        }
    }

    private static void negativePosition() {
        refusedNumbers(IllegalArgumentException.class, new int[] {-1, -2, -26, Integer.MIN_VALUE}, ParrotCounts::loudest);
    }

    private static void notSoManyCounters() {
        ParrotCounts x = Given.withCapacity(9);
        for (int counters = 0; counters <= 10; counters++) {
            for (int position : new int[] {counters, counters + 1, 26, Integer.MAX_VALUE}) {
                Checks.fails(NoSuchElementException.class, () -> x.loudest(position), position + " of " + counters);
            }
            x.hear(counters);
            x.hear(0);
            Checks.same(0, x.loudest(0), "a is the loudest one");
        }
    }

    private static void kinds() {
        ParrotCounts x = Given.busy();
        Checks.fails(IndexOutOfBoundsException.class, () -> x.hear(26), "a parrot");
        Checks.fails(IndexOutOfBoundsException.class, () -> x.trueCount(-1), "a parrot");
        Checks.fails(IllegalArgumentException.class, () -> x.empty(0), "a capacity");
        Checks.fails(IllegalArgumentException.class, () -> x.loudest(-1), "a position");
        Checks.fails(IllegalArgumentException.class, () -> x.trulyAbove(1001), "a share");
    }

    private static void firstOfHear() {
        ParrotCounts x = Given.full();
        Checks.fails(IllegalStateException.class, () -> x.hear(25), "call 100000");
        Checks.fails(IndexOutOfBoundsException.class, () -> x.hear(26), "call 100000 of no parrot");
        Checks.fails(IndexOutOfBoundsException.class, () -> x.hear(-1), "call 100000 of no parrot");
    }

    private static void firstOfHearSong() {
        ParrotCounts x = Given.full();
        Checks.fails(IllegalStateException.class, x::hearSong, "too many calls");
        for (String text : new String[] {"99(99ab)2", "99(99ab", "99(99ab))", ""}) {
            Given.write(x, text);
            Checks.fails(IllegalArgumentException.class, x::hearSong, "too many calls, and no song: " + text);
        }
    }

    private static void firstOfSurplus() {
        for (int parrot : NO_PARROTS) {
            Checks.fails(IndexOutOfBoundsException.class, () -> new ParrotCounts().surplus(parrot), parrot + " has no counter");
        }
    }

    private static void firstOfLoudest() {
        Checks.fails(IllegalArgumentException.class, () -> new ParrotCounts().loudest(-1), "there are no counters");
        Checks.fails(NoSuchElementException.class, () -> new ParrotCounts().loudest(0), "there are no counters");
    }

    // ---- a refused call changes nothing: neither the state, nor what the history holds, nor the text

    private static void unchanged(Supplier<ParrotCounts> given, Class<? extends Exception> due,
            Function<ParrotCounts, Object> call, String what) {
        for (int back = 0; back <= 5; back++) {
            ParrotCounts refusing = refused(given, due, call, what);
            Checks.same(stateBack(given.get(), back), stateBack(refusing, back), back + " states back behind " + what);
        }
        ParrotCounts refusing = refused(given, due, call, what);
        Checks.same(Given.textView(given.get()), Given.textView(refusing), "the text behind " + what);
    }

    private static ParrotCounts refused(Supplier<ParrotCounts> given, Class<? extends Exception> due,
            Function<ParrotCounts, Object> call, String what) {
        ParrotCounts x = given.get();
        Checks.fails(due, () -> call.apply(x), what);
        return x;
    }

    private static String stateBack(ParrotCounts x, int back) {
        StringBuilder states = new StringBuilder("states: ").append(x.historySize());
        for (int i = 0; i < back && x.historySize() > 0; i++) {
            states.append(' ').append(x.undo());
        }
        return states.append(' ').append(Given.deepView(x)).toString();
    }

    private static void hearChangesNothing() {
        unchanged(Given::busy, IndexOutOfBoundsException.class, x -> x.hear(26), "hear(26)");
        unchanged(Given::busy, IndexOutOfBoundsException.class, x -> x.hear(-1), "hear(-1)");
        unchanged(Given::full, IllegalStateException.class, x -> x.hear(0), "call 100000");
        unchanged(Given::full, IndexOutOfBoundsException.class, x -> x.hear(26), "call 100000 of no parrot");
    }

    private static void hearSongChangesNothing() {
        for (String text : new String[] {"", "ab2", "2(a", "2(a))"}) {
            unchanged(() -> Given.write(Given.busy(), text), IllegalArgumentException.class, ParrotCounts::hearSong, text);
        }
        unchanged(() -> Given.write(Given.busy(), "10(99ab)a"), IllegalStateException.class, ParrotCounts::hearSong,
            "a song of 1001 calls");
        unchanged(Given::full, IllegalStateException.class, ParrotCounts::hearSong, "call 100000");
    }

    private static void emptyChangesNothing() {
        unchanged(Given::busy, IllegalArgumentException.class, x -> x.empty(0), "empty(0)");
        unchanged(Given::busy, IllegalArgumentException.class, x -> x.empty(10), "empty(10)");
        unchanged(ParrotCounts::new, IllegalArgumentException.class, x -> x.empty(10), "empty(10) on a new object");
    }

    private static void mergeInChangesNothing() {
        unchanged(() -> Given.sung(2, "3ab2c2d"), IllegalStateException.class, ParrotCounts::mergeIn, "nothing aside");
        ParrotCounts x = halfAside("10(99ab)");
        Checks.fails(IllegalStateException.class, x::mergeIn, "100000 calls");
        Checks.same(Given.view(halfAside("10(99ab)")), Given.view(x), "the lists");
        Checks.same(5, x.historySize(), "the history");
        x.undo();
        Checks.same(49000, x.calls(), "the latest state");
        Checks.same(99000, x.mergeIn(), "what is aside");
    }

    private static void appendChangesNothing() {
        unchanged(() -> Given.withText("a".repeat(60)), IllegalStateException.class, x -> x.append('b'), "a full song");
        unchanged(() -> Given.write(Given.busy(), "2(" + "b".repeat(57) + "2"), IllegalStateException.class,
            x -> x.append(')'), "a full text");
    }

    private static void textChangesNothing() {
        unchanged(() -> Given.write(Given.busy(), "2(ab)"), IllegalStateException.class, ParrotCounts::firstError,
            "firstError of a song");
        unchanged(() -> Given.write(Given.busy(), "2(a"), IllegalArgumentException.class, ParrotCounts::callsOfSong,
            "callsOfSong of no song");
    }

    private static void undoChangesNothing() {
        unchanged(() -> Given.withText("2a"), IllegalStateException.class, ParrotCounts::undo, "undo on a new object");
        unchanged(() -> {
            ParrotCounts x = Given.busy();
            for (int i = 0; i < 5; i++) {
                x.undo();
            }
            return x;
        }, IllegalStateException.class, ParrotCounts::undo, "undo behind all others");
    }

    private static void firstListChangesNothing() {
        unchanged(Given::busy, IndexOutOfBoundsException.class, x -> x.estimate(26), "estimate");
        unchanged(Given::busy, IndexOutOfBoundsException.class, x -> x.sureCount(-1), "sureCount");
        unchanged(Given::busy, IndexOutOfBoundsException.class, x -> x.surplus(26), "surplus");
        unchanged(Given::busy, NoSuchElementException.class, x -> x.surplus(25), "surplus without a counter");
        unchanged(() -> Given.sung(4, "abcd"), NoSuchElementException.class, ParrotCounts::nextTakenOver, "nextTakenOver");
        unchanged(Given::busy, IllegalArgumentException.class, x -> x.loudest(-1), "loudest");
        unchanged(Given::busy, NoSuchElementException.class, x -> x.loudest(3), "loudest behind the last one");
    }

    private static void sharesChangeNothing() {
        unchanged(Given::busy, IllegalArgumentException.class, x -> x.surelyAbove(1001), "surelyAbove");
        unchanged(Given::busy, IllegalArgumentException.class, x -> x.perhapsAbove(-1), "perhapsAbove");
        unchanged(Given::busy, IllegalArgumentException.class, x -> x.trulyAbove(1001), "trulyAbove");
    }

    private static void countsChangeNothing() {
        unchanged(Given::busy, IndexOutOfBoundsException.class, x -> x.wornCount(26), "wornCount");
        unchanged(Given::busy, IndexOutOfBoundsException.class, x -> x.aboveFloor(-1), "aboveFloor");
        unchanged(Given::busy, IndexOutOfBoundsException.class, x -> x.trueCount(26), "trueCount");
    }
}

import java.util.function.ToIntFunction;

/** What each promise says of its argument and its answer: the least and the greatest ones, nothing heard, lists that are full. */
final class AnswerSentences {
    private static final String PARROT = "- `parrot`: 0 to 25";
    private static final String PERMILLE = "- `permille`: 0 to 1000";
    private static final String SURELY = "Returns a bit set of the parrots whose sure counts times 1000 are greater than "
        + "permille times the number of calls.";
    private static final String PERHAPS = "Returns a bit set of the parrots whose estimates times 1000 are greater than "
        + "permille times the number of calls.";
    private static final String TRULY = "Returns a bit set of the parrots whose true counts times 1000 are greater than "
        + "permille times the number of calls.";
    private static final String MERGED_NOTHING = "As long as nothing has been merged in, this is the";
    private static final int ALL = (1 << Given.PARROTS) - 1;
    private static final String EVERY_NAME = "abcdefghijklmnopqrstuvwxyz";

    private AnswerSentences() {
    }

    static void run() {
        modifications();
        texts();
        parrots();
        firstList();
        shares();
        secondList();
        counts();
        Checks.test("each line that tells an argument, an answer or a refusal has a test", Document::everyLineIsTested);
    }

    private static void modifications() {
        Document.test("Promise 1", "Creates empty lists; nothing is aside.", AnswerSentences::newObject);
        Document.test("Promise 2", "Returns its estimate afterwards.", AnswerSentences::heard);
        Document.test("Promise 3", "The song in the text buffer is heard, call by call.", AnswerSentences::callByCall);
        Document.test("Promise 3", "The buffer is not changed.", AnswerSentences::bufferNotChanged);
        Document.test("Promise 3", "This is one modification.", AnswerSentences::oneModification);
        Document.test("Promise 3", "Returns the number of calls that have been heard so far.", AnswerSentences::sung);
        Document.test("Promise 4", "what is aside is forgotten", AnswerSentences::asideForgotten);
        Document.test("Promise 4", "- `capacity`: 1 to 9", AnswerSentences::capacities);
        Document.test("Promise 4", "Returns the previous capacity.", AnswerSentences::previousCapacity);
        Document.test("Promise 5", "Returns the number of calls that are put aside.", AnswerSentences::putAside);
        Document.test("Promise 6", "Returns the number of calls that have been heard so far, with those that are merged in.",
            AnswerSentences::merged);
        Document.test("Promise 12", "Returns the number of states that remain in the history.", AnswerSentences::undone);
    }

    private static void texts() {
        Document.test("Promise 7", "- `character`: any character", AnswerSentences::anyCharacter);
        Document.test("Promise 7", "Returns the length of the buffer afterwards.", AnswerSentences::lengthAfterwards);
        Document.test("Promise 8", "Returns the length that it had.", AnswerSentences::lengthBefore);
        Document.test("Promise 9", "Returns true if it is.", AnswerSentences::valid);
        Document.test("Promise 10", "Returns the index.", AnswerSentences::index);
        Document.test("Promise 11", "Returns the number.", AnswerSentences::callsOfSong);
    }

    private static void parrots() {
        Document.test("Promise 2", PARROT, () -> leastAndGreatest(ParrotCounts::hear, 3));
        Document.test("Promise 14", PARROT, () -> leastAndGreatest(ParrotCounts::estimate, 2));
        Document.test("Promise 15", PARROT, () -> leastAndGreatest(ParrotCounts::sureCount, 2));
        Document.test("Promise 16", PARROT, () -> leastAndGreatest(ParrotCounts::surplus, 0));
        Document.test("Promise 24", PARROT, () -> leastAndGreatest(ParrotCounts::wornCount, 2));
        Document.test("Promise 25", PARROT, () -> leastAndGreatest(ParrotCounts::aboveFloor, 2));
        Document.test("Promise 28", PARROT, () -> leastAndGreatest(ParrotCounts::trueCount, 2));
    }

    private static void firstList() {
        Document.test("Promise 13", "Returns 0 to the capacity plus 1.", AnswerSentences::counters);
        Document.test("Promise 14", "Returns the estimate.", AnswerSentences::estimate);
        Document.test("Promise 15", "Returns the sure count.", AnswerSentences::sureCount);
        Document.test("Promise 16", "Returns the surplus.", AnswerSentences::surplus);
        Document.test("Promise 17", "Returns the floor.", AnswerSentences::floor);
        Document.test("Promise 18", "Returns the parrot.", AnswerSentences::nextTakenOver);
        Document.test("Promise 19", "- `position`: 0 for the first one", AnswerSentences::positions);
        Document.test("Promise 19", "ordered by counts, the greatest first, and with the same count by numbers",
            AnswerSentences::sameCountByNumbers);
        Document.test("Promise 19", "Returns the parrot.", AnswerSentences::loudest);
    }

    private static void shares() {
        Document.test("Promise 20", PERMILLE, () -> noneAboveAll(x -> x.surelyAbove(0), x -> x.surelyAbove(1000)));
        Document.test("Promise 21", PERMILLE, () -> noneAboveAll(x -> x.perhapsAbove(0), x -> x.perhapsAbove(1000)));
        Document.test("Promise 22", PERMILLE, () -> noneAboveAll(x -> x.trulyAbove(0), x -> x.trulyAbove(1000)));
        Document.test("Promise 20", SURELY, "greater", AnswerSentences::surelyGreater);
        Document.test("Promise 21", PERHAPS, "greater", AnswerSentences::perhapsGreater);
        Document.test("Promise 22", TRULY, "greater", AnswerSentences::trulyGreater);
        Document.test("Promise 20", SURELY, "without calls", () -> noneWithoutCalls(x -> x.surelyAbove(0)));
        Document.test("Promise 21", PERHAPS, "without calls", () -> noneWithoutCalls(x -> x.perhapsAbove(0)));
        Document.test("Promise 22", TRULY, "without calls", () -> noneWithoutCalls(x -> x.trulyAbove(0)));
        Document.test("Promise 20", SURELY, "99999 calls", () -> ofMostCalls(ParrotCounts::surelyAbove));
        Document.test("Promise 21", PERHAPS, "99999 calls", () -> ofMostCalls(ParrotCounts::perhapsAbove));
        Document.test("Promise 22", TRULY, "99999 calls", () -> ofMostCalls(ParrotCounts::trulyAbove));
    }

    private static void secondList() {
        Document.test("Promise 23", "Returns 0 to the capacity.", AnswerSentences::wornCounters);
        Document.test("Promise 24", "Returns the count, 0 without a counter.", AnswerSentences::wornCount);
        Document.test("Promise 25", MERGED_NOTHING + " count of the parrot in the second list.",
            AnswerSentences::aboveFloorIsWornCount);
        Document.test("Promise 25", "Returns the difference.", AnswerSentences::aboveFloor);
        Document.test("Promise 26", "Returns the wear.", AnswerSentences::wear);
    }

    private static void counts() {
        Document.test("Promise 27", "Returns 1 to 9.", AnswerSentences::capacity);
        Document.test("Promise 28", "Returns the true count.", AnswerSentences::trueCount);
        Document.test("Promise 29", "Returns the number.", AnswerSentences::calls);
        Document.test("Promise 30", MERGED_NOTHING + " number of calls as well.", AnswerSentences::callsByCounters);
        Document.test("Promise 30", "Returns the sum.", AnswerSentences::sumOfCounters);
        Document.test("Promise 31", "Returns the number of parrots whose true count is not 0.", AnswerSentences::parrotsHeard);
        Document.test("Promise 32", "Returns the greatest difference of the estimate and the true count of all parrots.",
            AnswerSentences::greatestError);
        Document.test("Promise 33", "Returns true if so.", AnswerSentences::hasAside);
        Document.test("Promise 34", "Returns its count, converted to double, divided by the number of calls; 0.0 without "
            + "calls.", AnswerSentences::loudestShare);
        Document.test("Promise 35", "Returns the number.", AnswerSentences::historySize);
    }

    private static void newObject() {
        ParrotCounts x = new ParrotCounts();
        Checks.same(0, x.counters() + x.callsByCounters() + x.floor(), "the first list");
        Checks.same(0, x.wornCounters() + x.wear(), "the second list");
        Checks.same(0, x.calls() + x.parrotsHeard() + x.greatestError(), "the true counts");
        Checks.same(false, x.hasAside(), "aside");
        Checks.same(0, x.historySize(), "the history");
        Checks.same(0, x.clearText(), "the text");
        for (int parrot = 0; parrot < Given.PARROTS; parrot++) {
            Checks.same(0, x.estimate(parrot) + x.wornCount(parrot) + x.trueCount(parrot), "parrot " + parrot);
        }
    }

    private static void heard() {
        ParrotCounts x = Given.withCapacity(1);
        Checks.same(1, x.hear(0), "a counter that it gets");
        Checks.same(2, x.hear(0), "its counter");
        Checks.same(1, x.hear(25), "the last counter that there is");
        Checks.same(2, x.hear(3), "one that it takes over");
        Checks.same(3, x.hear(25), "another one that it takes over");
    }

    private static void callByCall() {
        ParrotCounts x = Given.sung(2, "3(2ab)c5d2(de)");
        ParrotCounts y = Given.withCapacity(2);
        for (char name : "aabaabaabcdddddded".toCharArray()) {
            y.hear(name - 'a');
        }
        y.hear(4);
        y.clearText();
        Given.write(y, "3(2ab)c5d2(de)");
        Checks.same(Given.view(y), Given.view(x), "each call by itself");
    }

    private static void bufferNotChanged() {
        ParrotCounts x = Given.withText("2(a9b)c");
        x.hearSong();
        Checks.same(21, x.callsOfSong(), "calls of the song");
        Checks.same(42, x.hearSong(), "heard again");
        Checks.same(8, x.append('z'), "length");
        Checks.same(22, x.callsOfSong(), "one more");
    }

    private static void oneModification() {
        ParrotCounts x = Given.withText("10(99ab)");
        x.hear(2);
        x.hearSong();
        Checks.same(2, x.historySize(), "states");
        Checks.same(1, x.undo(), "states that remain");
        Checks.same(1, x.calls(), "all of 1000 calls are taken back");
    }

    private static void sung() {
        ParrotCounts x = Given.withText("z");
        Checks.same(1, x.hearSong(), "one call");
        Checks.same(1001, Given.sing(x, "10(99ab)"), "1000 more");
        x.putAside();
        Checks.same(1000, x.hearSong(), "those that are aside do not count");
        x.mergeIn();
        Checks.same(3001, x.hearSong(), "those that were merged in do");
    }

    private static void asideForgotten() {
        ParrotCounts x = Given.sung(3, "5a");
        x.putAside();
        x.hear(1);
        x.empty(3);
        Checks.same(false, x.hasAside(), "aside");
        Checks.fails(IllegalStateException.class, x::mergeIn, "mergeIn");
        Checks.same(0, x.calls(), "the lists are empty");
        Checks.same(0, x.counters() + x.wornCounters(), "without counters");
    }

    private static void capacities() {
        for (int capacity = 1; capacity <= 9; capacity++) {
            ParrotCounts x = Given.sung(capacity, EVERY_NAME.substring(0, capacity));
            Checks.same(capacity, x.wornCounters(), "counters of the second list");
            Checks.same(0, x.wear(), "no wear yet");
            x.hear(25);
            Checks.same(capacity + 1, x.counters(), "counters of the first list");
            Checks.same(1, x.wear(), "wear");
        }
    }

    private static void previousCapacity() {
        ParrotCounts x = new ParrotCounts();
        int previous = 4;
        for (int capacity : new int[] {4, 9, 9, 1, 1, 5}) {
            Checks.same(previous, x.empty(capacity), "before " + capacity);
            previous = capacity;
        }
    }

    private static void putAside() {
        ParrotCounts x = Given.sung(1, "5abc");
        Checks.same(7, x.putAside(), "calls");
        Checks.same(0, x.putAside(), "none in new lists");
        Checks.same(99999, Given.full().putAside(), "as many as there can be");
    }

    private static void merged() {
        ParrotCounts x = Given.sung(1, "5abc");
        x.putAside();
        Checks.same(7, x.mergeIn(), "into empty lists");
        x.putAside();
        Given.sing(x, "2z");
        Checks.same(9, x.mergeIn(), "both");
        x.empty(1);
        x.putAside();
        Given.sing(x, "3z");
        Checks.same(3, x.mergeIn(), "with empty lists");
    }

    private static void undone() {
        ParrotCounts x = new ParrotCounts();
        for (int i = 0; i < 7; i++) {
            x.hear(0);
        }
        for (int remain = 4; remain >= 0; remain--) {
            Checks.same(remain, x.undo(), "states that remain");
        }
    }

    private static void anyCharacter() {
        for (int number = 0; number <= Character.MAX_VALUE; number += number < 300 ? 1 : 97) {
            ParrotCounts x = new ParrotCounts();
            char character = (char) number;
            Checks.same(1, x.append(character), "length with " + number);
            Checks.same(character >= 'a' && character <= 'z', x.isValid(), "valid with " + number);
        }
        Checks.same(1, new ParrotCounts().append(Character.MAX_VALUE), "the greatest one");
    }

    private static void lengthAfterwards() {
        ParrotCounts x = new ParrotCounts();
        for (int length = 1; length <= 60; length++) {
            Checks.same(length, x.append('('), "length");
        }
    }

    private static void lengthBefore() {
        ParrotCounts x = new ParrotCounts();
        Checks.same(0, x.clearText(), "of an empty buffer");
        x.append('?');
        Checks.same(1, x.clearText(), "of one character");
        Checks.same(0, x.clearText(), "cleared twice");
        Given.write(x, "a".repeat(60));
        Checks.same(60, x.clearText(), "of a full buffer");
        Checks.same(false, x.isValid(), "nothing is left of the song");
    }

    private static void valid() {
        Checks.same(false, new ParrotCounts().isValid(), "an empty buffer");
        Checks.same(true, Given.withText("q").isValid(), "one phrase");
        Checks.same(true, Given.withText("99(99q)").isValid(), "a song of too many calls to be heard");
        Checks.same(false, Given.withText("99(99q").isValid(), "the beginning of a song");
    }

    private static void index() {
        Checks.same(0, new ParrotCounts().firstError(), "an empty buffer");
        Checks.same(0, Given.withText("?").firstError(), "the first character");
        Checks.same(59, Given.withText("a".repeat(59) + "?").firstError(), "the last one");
        Checks.same(60, Given.withText("a".repeat(59) + "2").firstError(), "the length of a full buffer");
    }

    private static void callsOfSong() {
        Checks.same(1, Given.withText("a").callsOfSong(), "the least");
        Checks.same(1001, Given.withText("10(99ab)a").callsOfSong(), "more than can be heard");
        Checks.same(99 * 18 * 99 + 1, Given.withText("99(" + "99z".repeat(18) + ")a").callsOfSong(), "far more");
    }

    private interface OfParrot {
        int of(ParrotCounts x, int parrot);
    }

    private static void leastAndGreatest(OfParrot method, int due) {
        for (int parrot : new int[] {0, 25}) {
            Checks.same(due, method.of(Given.sung(4, "2a2z"), parrot), "parrot " + parrot);
        }
    }

    private static void counters() {
        for (int capacity = 1; capacity <= 9; capacity++) {
            ParrotCounts x = Given.withCapacity(capacity);
            Checks.same(0, x.counters(), "none");
            Given.sing(x, EVERY_NAME);
            Checks.same(capacity + 1, x.counters(), "as many as there can be");
            x.putAside();
            Given.sing(x, EVERY_NAME);
            x.mergeIn();
            Checks.same(capacity + 1, x.counters(), "merged");
        }
    }

    private static void estimate() {
        ParrotCounts x = Given.sung(1, "2a");
        Checks.same(0, x.estimate(25), "no counter, and one is left");
        Given.sing(x, "3b");
        Checks.same(2, x.estimate(25), "no counter, and none is left");
        Checks.same(3, x.estimate(1), "a counter");
    }

    private static void sureCount() {
        ParrotCounts x = Given.sung(1, "2a3b");
        Checks.same(2, x.sureCount(0), "a counter without a surplus");
        Checks.same(0, x.sureCount(25), "no counter");
        x.hear(25);
        Checks.same(1, x.sureCount(25), "a counter with a surplus");
        Checks.same(0, x.sureCount(0), "no counter any more");
    }

    private static void surplus() {
        ParrotCounts x = Given.sung(1, "2a3b");
        Checks.same(0, x.surplus(0), "a counter that was given");
        x.hear(25);
        Checks.same(2, x.surplus(25), "a counter that was taken over");
        x.hear(25);
        Checks.same(2, x.surplus(25), "one call later");
    }

    private static void floor() {
        ParrotCounts x = new ParrotCounts();
        Checks.same(0, x.floor(), "no counters");
        Given.sing(x, "9a9b9c9d");
        Checks.same(0, x.floor(), "one is left");
        x.hear(25);
        Checks.same(1, x.floor(), "none is left");
        Checks.same(0, Given.full().floor(), "two of five counters, however many calls");
    }

    private static void nextTakenOver() {
        ParrotCounts x = Given.sung(1, "2z2a");
        Checks.same(25, x.nextTakenOver(), "z was changed longest ago");
        x.hear(12);
        Checks.fails(java.util.NoSuchElementException.class, () -> x.surplus(25), "when another parrot was heard");
        Checks.same(0, x.nextTakenOver(), "a has the least count");
        Checks.same(0, Given.sung(1, "2a2z").nextTakenOver(), "a was changed longest ago");
    }

    private static void positions() {
        ParrotCounts x = Given.sung(9, "a2b3c4d5e6f7g8h9i10j");
        for (int position = 0; position < 10; position++) {
            Checks.same(9 - position, x.loudest(position), "position " + position);
        }
    }

    private static void sameCountByNumbers() {
        ParrotCounts x = Given.sung(4, "zyaxb");
        int[] due = {0, 1, 23, 24, 25};
        for (int position = 0; position < due.length; position++) {
            Checks.same(due[position], x.loudest(position), "position " + position);
        }
        x.hear(25);
        Checks.same(25, x.loudest(0), "z is the loudest one");
        Checks.same(0, x.loudest(1), "then a");
        Checks.same(24, x.loudest(4), "y is the last one");
    }

    private static void loudest() {
        Checks.same(25, Given.sung(1, "z").loudest(0), "the only one");
        ParrotCounts x = Given.sung(1, "5a4bz");
        Checks.same(0, x.loudest(0), "a and z have 5 now");
        x.hear(25);
        Checks.same(25, x.loudest(0), "z by its count, not by its sure count");
        Checks.same(0, x.loudest(1), "a is the last one");
    }

    private static int bits(String names) {
        int bits = 0;
        for (char name : names.toCharArray()) {
            bits |= 1 << (name - 'a');
        }
        return bits;
    }

    private static void noneAboveAll(ToIntFunction<ParrotCounts> above0, ToIntFunction<ParrotCounts> above1000) {
        ParrotCounts x = Given.sung(4, "3z2a");
        Checks.same(bits("az"), above0.applyAsInt(x), "above 0: all that are heard");
        Checks.same(0, above1000.applyAsInt(x), "above 1000: none");
        Checks.same(0, above1000.applyAsInt(Given.sung(4, "3z")), "above 1000: not even who made all calls");
    }

    private static void surelyGreater() {
        ParrotCounts x = Given.sung(1, "5a4bz");
        // Of 10 calls a has 5 for sure, and z 1.
        Checks.same(bits("az"), x.surelyAbove(99), "above 99");
        Checks.same(bits("a"), x.surelyAbove(100), "z has just 100");
        Checks.same(bits("a"), x.surelyAbove(499), "above 499");
        Checks.same(0, x.surelyAbove(500), "a has just 500");
    }

    private static void perhapsGreater() {
        ParrotCounts x = Given.sung(1, "4a3b3c");
        // Of 10 calls a has 4, and c 6; all others have the floor, 4.
        Checks.same(ALL, x.perhapsAbove(399), "above 399");
        Checks.same(bits("c"), x.perhapsAbove(400), "all but c have just 400");
        Checks.same(bits("c"), x.perhapsAbove(599), "above 599");
        Checks.same(0, x.perhapsAbove(600), "c has just 600");
    }

    private static void trulyGreater() {
        ParrotCounts x = Given.sung(1, "5a4bz");
        Checks.same(bits("abz"), x.trulyAbove(99), "above 99");
        Checks.same(bits("ab"), x.trulyAbove(100), "z has just 100");
        Checks.same(bits("a"), x.trulyAbove(400), "b has just 400");
        Checks.same(0, x.trulyAbove(500), "a has just 500");
    }

    private static void noneWithoutCalls(ToIntFunction<ParrotCounts> above0) {
        Checks.same(0, above0.applyAsInt(new ParrotCounts()), "a new object");
        ParrotCounts x = Given.sung(1, "abc");
        x.putAside();
        Checks.same(0, above0.applyAsInt(x), "new lists");
    }

    private static void ofMostCalls(OfParrot above) {
        ParrotCounts x = Given.withThousands(99);
        Given.sing(x, "9(99a12b)");
        // Of 99999 calls a has 98901, b 1098: 989.019... and 10.98... of 1000.
        Checks.same(bits("ab"), above.of(x, 10), "above 10");
        Checks.same(bits("a"), above.of(x, 11), "above 11");
        Checks.same(bits("a"), above.of(x, 989), "above 989");
        Checks.same(0, above.of(x, 990), "above 990");
        Checks.same(0, above.of(x, 1000), "above 1000");
    }

    private static void wornCounters() {
        for (int capacity = 1; capacity <= 9; capacity++) {
            ParrotCounts x = Given.withCapacity(capacity);
            Checks.same(0, x.wornCounters(), "none");
            Given.sing(x, EVERY_NAME.substring(0, capacity));
            Checks.same(capacity, x.wornCounters(), "as many as there can be");
            x.putAside();
            Given.sing(x, EVERY_NAME.substring(0, capacity));
            x.mergeIn();
            Checks.same(capacity, x.wornCounters(), "merged");
            x.hear(25);
            Checks.same(capacity, x.wornCounters(), "each has 1 less");
            x.hear(25);
            Checks.same(0, x.wornCounters(), "none any more");
        }
    }

    private static void wornCount() {
        ParrotCounts x = Given.sung(1, "2a");
        Checks.same(2, x.wornCount(0), "a counter");
        Checks.same(0, x.wornCount(25), "no counter");
        Given.sing(x, "2z");
        Checks.same(0, x.wornCount(0), "no counter any more");
        Checks.same(0, x.wornCount(25), "still none, as all counters were given away");
    }

    private static void aboveFloorIsWornCount() {
        for (int capacity = 1; capacity <= 9; capacity++) {
            ParrotCounts x = Given.withCapacity(capacity);
            for (String song : new String[] {"3a2b", "9(abcdz)", EVERY_NAME, "7z2(yxw)"}) {
                Given.sing(x, song);
                for (int parrot = 0; parrot < Given.PARROTS; parrot++) {
                    Checks.same(x.wornCount(parrot), x.aboveFloor(parrot), parrot + " with the capacity " + capacity);
                }
            }
        }
    }

    private static void aboveFloor() {
        ParrotCounts x = Given.sung(1, "5a");
        Checks.same(5, x.aboveFloor(0), "no floor yet");
        Checks.same(0, x.aboveFloor(25), "no counter");
        Given.sing(x, "3b");
        Checks.same(2, x.aboveFloor(0), "above the 3 of b");
        Checks.same(0, x.aboveFloor(1), "b itself");
        Checks.same(0, x.aboveFloor(25), "no counter, and the estimate is the floor");
    }

    private static void wear() {
        ParrotCounts x = new ParrotCounts();
        Given.sing(x, "2a2b2c2d");
        Checks.same(0, x.wear(), "all counters were given away");
        x.hear(4);
        Checks.same(1, x.wear(), "worn once");
        x.putAside();
        Checks.same(0, x.wear(), "new lists");
        x.mergeIn();
        Checks.same(1, x.wear(), "merged");
    }

    private static void capacity() {
        ParrotCounts x = Given.withCapacity(1);
        Checks.same(1, x.capacity(), "the least");
        x.empty(9);
        Checks.same(9, x.capacity(), "the greatest");
        x.putAside();
        Checks.same(9, x.capacity(), "of new lists");
        x.mergeIn();
        Checks.same(9, x.capacity(), "of merged lists");
        x.undo();
        x.undo();
        x.undo();
        Checks.same(1, x.capacity(), "undone");
    }

    private static void trueCount() {
        ParrotCounts x = Given.sung(1, "3a2bc");
        Checks.same(0, x.trueCount(25), "not heard");
        Checks.same(2, x.trueCount(1), "without a counter any more");
        Checks.same(1, x.trueCount(2), "without the surplus");
        Checks.same(98901, Given.full().trueCount(0), "many");
    }

    private static void calls() {
        Checks.same(0, new ParrotCounts().calls(), "none");
        Checks.same(99999, Given.full().calls(), "as many as there can be");
        ParrotCounts x = Given.sung(2, "3a2b");
        x.putAside();
        Checks.same(0, x.calls(), "of new lists");
        Given.sing(x, "4cd");
        x.mergeIn();
        Checks.same(10, x.calls(), "from the true counts, though the counter of d is gone");
        x.hear(25);
        Checks.same(11, x.calls(), "one more");
    }

    private static void callsByCounters() {
        for (int capacity = 1; capacity <= 9; capacity++) {
            ParrotCounts x = Given.withCapacity(capacity);
            Checks.same(0, x.callsByCounters(), "none");
            for (String song : new String[] {"z", "9(abcdz)", EVERY_NAME, "7z2(yxw)"}) {
                Checks.same(Given.sing(x, song), x.callsByCounters(), "calls with the capacity " + capacity);
            }
        }
    }

    private static void sumOfCounters() {
        ParrotCounts x = Given.sung(2, "3a2b");
        x.putAside();
        Checks.same(0, x.callsByCounters(), "of new lists");
        Given.sing(x, "4cd");
        x.mergeIn();
        Checks.same(9, x.callsByCounters(), "a, b and c stay, and d is gone");
        x.hear(3);
        Checks.same(10, x.callsByCounters(), "d takes over the counter of b");
        x.empty(2);
        Checks.same(0, x.callsByCounters(), "of emptied lists");
    }

    private static void parrotsHeard() {
        ParrotCounts x = new ParrotCounts();
        Checks.same(0, x.parrotsHeard(), "none");
        Given.sing(x, EVERY_NAME);
        Checks.same(26, x.parrotsHeard(), "all");
        x.empty(1);
        Checks.same(0, x.parrotsHeard(), "none in emptied lists");
        Given.sing(x, "abcz");
        Checks.same(4, x.parrotsHeard(), "more than there are counters");
    }

    private static void greatestError() {
        Checks.same(0, new ParrotCounts().greatestError(), "nothing is heard");
        Checks.same(0, Given.sung(1, "5a").greatestError(), "a counter is left");
        Checks.same(3, Given.sung(1, "5a3b").greatestError(), "those that are not heard may have 3");
        Checks.same(4, Given.sung(1, "5a3bc").greatestError(), "the floor is 4, and b has 1 too much, c 3");
        ParrotCounts x = Given.sung(9, "2(bcdefghijklmnopqrstuvwxyz)");
        int floor = x.floor();
        x.hear(0);
        Checks.same(floor, x.greatestError(), "a took over the floor, and was heard once");
    }

    private static void hasAside() {
        ParrotCounts x = new ParrotCounts();
        Checks.same(false, x.hasAside(), "nothing");
        x.putAside();
        Checks.same(true, x.hasAside(), "empty lists");
        x.mergeIn();
        Checks.same(false, x.hasAside(), "merged in");
        x.undo();
        Checks.same(true, x.hasAside(), "undone");
    }

    private static void loudestShare() {
        ParrotCounts x = new ParrotCounts();
        Checks.same(0.0, x.loudestShare(), "without calls");
        x.hear(0);
        Checks.same(1.0, x.loudestShare(), "one call");
        Given.sing(x, "bc");
        Checks.same(1.0 / 3, x.loudestShare(), "all have 1");
        x.putAside();
        Checks.same(0.0, x.loudestShare(), "without calls in new lists");
        Checks.same(5.0 / 9, Given.sung(1, "4a3bcz").loudestShare(), "by the count, with the surplus");
        Checks.same(98901.0 / 99999.0, Given.full().loudestShare(), "many calls");
    }

    private static void historySize() {
        ParrotCounts x = new ParrotCounts();
        Checks.same(0, x.historySize(), "none");
        for (int modifications = 1; modifications <= 8; modifications++) {
            x.putAside();
            Checks.same(Math.min(modifications, 5), x.historySize(), "at most five");
        }
        x.undo();
        Checks.same(4, x.historySize(), "undone");
    }
}

/** Promises 1 to 6. */
final class ModificationsTest {
    private ModificationsTest() {
    }

    static void run() {
        Checks.test("promise 1: a new object has empty lists and nothing aside", ModificationsTest::newObject);
        Checks.test("promise 1: objects do not share their lists", ModificationsTest::ownLists);
        Checks.test("promise 2: hear gives counters and then takes them over", ModificationsTest::hear);
        Checks.test("promise 2: hear takes over the one changed longest ago", ModificationsTest::hearOldest);
        Checks.test("promise 2: hear refuses what is no parrot", ModificationsTest::hearWrong);
        Checks.test("promise 2: hear refuses call 100000", ModificationsTest::hearTooMuch);
        Checks.test("promise 3: hearSong hears call by call", ModificationsTest::hearSong);
        Checks.test("promise 3: hearSong is one modification", ModificationsTest::hearSongOnce);
        Checks.test("promise 3: hearSong refuses what is no song", ModificationsTest::hearSongWrong);
        Checks.test("promise 3: hearSong refuses more than 1000 calls", ModificationsTest::hearSongTooLong);
        Checks.test("promise 3: hearSong refuses call 100000", ModificationsTest::hearSongTooMuch);
        Checks.test("promise 4: empty empties and answers the previous capacity", ModificationsTest::empty);
        Checks.test("promise 4: empty refuses other capacities", ModificationsTest::emptyWrong);
        Checks.test("promise 5: putAside begins new lists", ModificationsTest::putAside);
        Checks.test("promise 5: putAside takes the place of what was aside", ModificationsTest::putAsideTwice);
        Checks.test("promise 6: mergeIn of the first lists", ModificationsTest::mergeFirst);
        Checks.test("promise 6: mergeIn keeps the greatest counts", ModificationsTest::mergeFirstTooMany);
        Checks.test("promise 6: mergeIn orders the changes by numbers", ModificationsTest::mergeOrder);
        Checks.test("promise 6: mergeIn of the second lists", ModificationsTest::mergeSecond);
        Checks.test("promise 6: mergeIn with nothing aside is refused", ModificationsTest::mergeNothing);
        Checks.test("promise 6: mergeIn refuses 100000 calls", ModificationsTest::mergeTooMuch);
        Checks.test("promises 2 to 6: what throws changes nothing", ModificationsTest::nothingChanged);
    }

    private static void newObject() {
        ParrotCounts x = new ParrotCounts();
        Checks.same(0, x.counters(), "counters");
        Checks.same(0, x.wornCounters(), "worn counters");
        Checks.same(0, x.calls(), "calls");
        Checks.same(0, x.wear(), "wear");
        Checks.same(false, x.hasAside(), "aside");
        Checks.same(4, x.capacity(), "capacity");
        Checks.same(0, x.historySize(), "history");
        Checks.same(0, x.clearText(), "text");
    }

    private static void ownLists() {
        ParrotCounts x = new ParrotCounts();
        ParrotCounts y = new ParrotCounts();
        String before = Given.view(y);
        Given.sing(x, "3abcdef");
        x.putAside();
        Checks.same(before, Given.view(y), "the other object");
    }

    private static void hear() {
        ParrotCounts x = Given.withCapacity(1);
        Checks.same(1, x.hear(0), "a gets a counter");
        Checks.same(1, x.hear(25), "z gets a counter");
        Checks.same(2, x.hear(0), "a is counted");
        Checks.same(2, x.hear(3), "d takes over that of z");
        Checks.same(1, x.surplus(3), "the surplus of d");
        Checks.same(1, x.sureCount(3), "the sure count of d");
        Checks.same(3, x.hear(25), "z takes over that of a, changed longer ago");
        Checks.same(2, x.surplus(25), "the surplus of z");
        Checks.same(2, x.trueCount(25), "the true count of z");
        Checks.same(2, x.estimate(0), "a is estimated by the floor");
        Checks.same(5, x.historySize(), "five states, of six modifications");
    }

    private static void hearOldest() {
        ParrotCounts x = Given.sung(2, "cba");
        Checks.same(2, x.nextTakenOver(), "c is the oldest one");
        x.hear(2);
        Checks.same(1, x.nextTakenOver(), "then b");
        x.hear(1);
        x.hear(0);
        Checks.same(2, x.nextTakenOver(), "all have 2, c is the oldest one again");
        Checks.same(3, x.hear(5), "f takes over that of c");
        Checks.same(2, x.surplus(5), "with the surplus 2");
        Checks.same(1, x.nextTakenOver(), "b is next");
    }

    private static void hearWrong() {
        ParrotCounts x = new ParrotCounts();
        for (int parrot : new int[] {-1, 26, Integer.MIN_VALUE, Integer.MAX_VALUE}) {
            Checks.fails(IndexOutOfBoundsException.class, () -> x.hear(parrot), "hear " + parrot);
        }
        Checks.same(0, x.historySize(), "history");
        Checks.same(0, x.calls(), "calls");
    }

    private static void hearTooMuch() {
        ParrotCounts x = Given.withThousands(99);
        Given.sing(x, "2(99a)2(99b)2(99c)2(99d)2(99e)8z");
        Checks.same(99998, x.calls(), "calls");
        x.hear(24);
        Checks.same(99999, x.calls(), "call 99999 is heard");
        int states = x.historySize();
        Checks.fails(IllegalStateException.class, () -> x.hear(24), "call 100000");
        Checks.fails(IndexOutOfBoundsException.class, () -> x.hear(26), "no such parrot is told first");
        Checks.same(99999, x.calls(), "calls are as before");
        Checks.same(states, x.historySize(), "history");
        x.undo();
        Checks.same(99998, x.calls(), "the call before is taken back");
        x.hear(0);
        Checks.fails(IllegalStateException.class, () -> x.hear(0), "call 100000 again");
    }

    private static void hearSong() {
        ParrotCounts x = Given.withCapacity(1);
        Checks.same(12, Given.sing(x, "2(a2b)cd3az"), "calls");
        // a has 2 and b 4 behind the parentheses; c takes over that of a (3, surplus 2), d that of c (4,
        // surplus 3), a that of b, changed longer ago (5, surplus 4, then 7), z that of d (5, surplus 4).
        Checks.same(7, x.estimate(0), "a");
        Checks.same(4, x.surplus(0), "the surplus of a");
        Checks.same(5, x.estimate(25), "z");
        Checks.same(4, x.surplus(25), "the surplus of z");
        Checks.same(5, x.trueCount(0), "the true count of a");
        Checks.same(4, x.trueCount(1), "the true count of b");
        Checks.same(true, x.isValid(), "the buffer is as it was");
        Checks.same(12, x.callsOfSong(), "its calls too");
        Checks.same(24, x.hearSong(), "heard again");
        Checks.same(11, x.clearText(), "the buffer's length is as it was");
    }

    private static void hearSongOnce() {
        ParrotCounts x = Given.withText("3(ab)");
        x.hearSong();
        Checks.same(1, x.historySize(), "one state");
        x.undo();
        Checks.same(0, x.calls(), "all calls are taken back");
    }

    private static void hearSongWrong() {
        for (String text : new String[] {"", "2", "1a", "a2", "2()", "2(a", "a)", "A", "100a"}) {
            ParrotCounts x = Given.withText(text);
            Checks.fails(IllegalArgumentException.class, x::hearSong, "the song " + text);
            Checks.same(0, x.historySize(), "history");
        }
    }

    private static void hearSongTooLong() {
        Checks.same(1000, Given.withText(Given.THOUSAND).hearSong(), "1000 calls");
        ParrotCounts x = Given.withText(Given.THOUSAND + "a");
        Checks.same(1001, x.callsOfSong(), "calls of the song");
        Checks.fails(IllegalStateException.class, x::hearSong, "1001 calls");
        Checks.same(0, x.historySize(), "history");
        Checks.same(0, x.calls(), "calls");
    }

    private static void hearSongTooMuch() {
        ParrotCounts x = Given.withThousands(99);
        Checks.fails(IllegalStateException.class, x::hearSong, "1000 more calls");
        Checks.same(99000, x.calls(), "calls are as before");
        Checks.same(99999, Given.sing(x, "9(99a12b)"), "999 more calls");
        Given.write(x, "a");
        Checks.fails(IllegalStateException.class, x::hearSong, "one more call");
        Given.write(x, "2");
        Checks.fails(IllegalArgumentException.class, x::hearSong, "what is no song is told first");
        Checks.same(99999, x.calls(), "calls");
    }

    private static void empty() {
        ParrotCounts x = Given.busy();
        Checks.same(2, x.empty(9), "previous capacity");
        Checks.same(9, x.capacity(), "capacity");
        Checks.same(0, x.counters() + x.wornCounters() + x.wear() + x.calls(), "all is empty");
        Checks.same(false, x.hasAside(), "what was aside is forgotten");
        Checks.same(10, Given.sing(x, "abcdefghij"), "calls");
        Checks.same(10, x.counters(), "ten counters in the first list");
        Checks.same(1, x.floor(), "and the floor is 1");
        Checks.same(9, x.empty(9), "the same capacity is taken too");
        Checks.same(9, x.empty(1), "and the least one");
        Checks.same(1, x.empty(1), "which is answered then");
        x.hear(0);
        x.hear(1);
        x.hear(2);
        Checks.same(2, x.counters(), "two counters for the capacity 1");
    }

    private static void emptyWrong() {
        ParrotCounts x = new ParrotCounts();
        x.hear(3);
        for (int capacity : new int[] {0, 10, -1, Integer.MIN_VALUE, Integer.MAX_VALUE}) {
            Checks.fails(IllegalArgumentException.class, () -> x.empty(capacity), "capacity " + capacity);
        }
        Checks.same(1, x.calls(), "nothing is emptied");
        Checks.same(4, x.capacity(), "capacity");
        Checks.same(1, x.historySize(), "history");
    }

    private static void putAside() {
        ParrotCounts x = Given.sung(3, "4a3b2cdef");
        Checks.same(12, x.putAside(), "calls that are put aside");
        Checks.same(true, x.hasAside(), "aside");
        Checks.same(3, x.capacity(), "the capacity stays");
        Checks.same(0, x.counters() + x.wornCounters() + x.wear() + x.calls() + x.floor(), "new lists");
        Checks.same(3, x.historySize(), "three modifications");
        Checks.same(5, Given.sing(x, "abcde"), "calls of the new lists");
        Checks.same(17, x.mergeIn(), "calls with those aside");
    }

    private static void putAsideTwice() {
        ParrotCounts x = Given.sung(3, "4a3b");
        x.putAside();
        Given.sing(x, "2c");
        Checks.same(2, x.putAside(), "the second ones");
        Checks.same(2, x.mergeIn(), "only those are merged in");
        Checks.same(0, x.trueCount(0), "a is forgotten");
        Checks.same(2, x.putAside(), "put aside again");
        Checks.same(0, x.putAside(), "empty lists can be put aside");
        Checks.same(true, x.hasAside(), "and are aside then");
        Checks.same(0, x.mergeIn(), "and can be merged in");
    }

    private static void mergeFirst() {
        ParrotCounts x = Given.sung(2, "5a3b2cd");
        // Aside: a 5, b 3, d 3 with the surplus 2; the floor is 3.
        x.putAside();
        Given.sing(x, "2az");
        Checks.same(14, x.mergeIn(), "calls");
        // Sums: a 5 + 2, b 3 + 0, d 3 + 0, z 3 + 1; b stays before d, having the lower number.
        Checks.same(3, x.counters(), "counters");
        Checks.same(7, x.estimate(0), "a");
        Checks.same(0, x.surplus(0), "the surplus of a");
        Checks.same(4, x.estimate(25), "z");
        Checks.same(3, x.surplus(25), "the surplus of z is the floor of what was aside");
        Checks.same(3, x.estimate(1), "b");
        Checks.same(0, x.surplus(1), "the surplus of b");
        Checks.fails(java.util.NoSuchElementException.class, () -> x.surplus(3), "d has no counter any more");
        Checks.same(3, x.floor(), "floor");
        Checks.same(7, x.trueCount(0), "the true count of a");
        Checks.same(1, x.trueCount(3), "the true count of d");
        Checks.same(false, x.hasAside(), "nothing is aside any more");
    }

    private static void mergeFirstTooMany() {
        ParrotCounts x = Given.sung(1, "2y3z");
        x.putAside();
        Given.sing(x, "3c4d");
        x.mergeIn();
        // Sums with the other floor: y 2 + 3, z 3 + 3, c 3 + 2, d 4 + 2; d stays and z, both have 6.
        Checks.same(3, x.loudest(0), "the loudest one");
        Checks.same(25, x.loudest(1), "the second one");
        Checks.same(2, x.surplus(3), "the surplus of d is the floor of what was aside");
        Checks.same(3, x.surplus(25), "the surplus of z is the floor of the other lists");
        Checks.same(2, x.counters(), "counters");

        ParrotCounts y = Given.sung(1, "2y2z");
        y.putAside();
        Given.sing(y, "2c2d");
        y.mergeIn();
        Checks.same(2, y.loudest(0), "all have 4, the lowest number stays");
        Checks.same(3, y.loudest(1), "and the second lowest one");
        Checks.same(4, y.floor(), "floor");
    }

    private static void mergeOrder() {
        ParrotCounts x = Given.sung(2, "zyx");
        Checks.same(25, x.nextTakenOver(), "z was changed longest ago");
        x.putAside();
        x.mergeIn();
        Checks.same(23, x.nextTakenOver(), "now x is the lowest number");
        x.hear(23);
        Checks.same(24, x.nextTakenOver(), "then y");
        x.hear(0);
        Checks.same(25, x.nextTakenOver(), "then z, behind which a is new");
        x.hear(25);
        Checks.same(23, x.nextTakenOver(), "x was heard before a and z, all have 2");
    }

    private static void mergeSecond() {
        ParrotCounts x = Given.sung(2, "5a3bc");
        // Aside: a 4, b 2, worn by 1.
        x.putAside();
        Given.sing(x, "4c3de");
        // c 3, d 2, worn by 1.
        x.mergeIn();
        // Sums: a 4, c 3, b 2, d 2, so all become less by 2.
        Checks.same(2, x.wornCounters(), "counters");
        Checks.same(2, x.wornCount(0), "a");
        Checks.same(1, x.wornCount(2), "c");
        Checks.same(0, x.wornCount(1) + x.wornCount(3), "b and d");
        Checks.same(4, x.wear(), "wear");

        ParrotCounts y = Given.sung(2, "5a3bc");
        y.putAside();
        Given.sing(y, "2ab");
        y.mergeIn();
        Checks.same(6, y.wornCount(0), "a is added");
        Checks.same(3, y.wornCount(1), "b is added");
        Checks.same(1, y.wear(), "no more wear, as there are not more counters than the capacity");
    }

    private static void mergeNothing() {
        ParrotCounts x = Given.sung(2, "5a3bc");
        Checks.fails(IllegalStateException.class, x::mergeIn, "nothing was ever aside");
        x.putAside();
        x.mergeIn();
        int states = x.historySize();
        Checks.fails(IllegalStateException.class, x::mergeIn, "it was merged in");
        Checks.same(states, x.historySize(), "history");
        x.putAside();
        x.empty(2);
        Checks.fails(IllegalStateException.class, x::mergeIn, "it was forgotten");
    }

    private static void mergeTooMuch() {
        ParrotCounts x = Given.withThousands(50);
        x.putAside();
        for (int i = 0; i < 49; i++) {
            x.hearSong();
        }
        Given.sing(x, "9(99a12b)");
        x.hear(25);
        Checks.same(50000, x.calls(), "as many as aside");
        Checks.fails(IllegalStateException.class, x::mergeIn, "100000 calls");
        Checks.same(true, x.hasAside(), "still aside");
        Checks.same(50000, x.calls(), "calls");
        x.undo();
        Checks.same(99999, x.mergeIn(), "99999 calls");
        Checks.fails(IllegalStateException.class, () -> x.hear(0), "and no more");
    }

    private static void nothingChanged() {
        ParrotCounts x = Given.busy();
        ParrotCounts y = Given.busy();
        Given.write(x, "2(a");
        Given.write(y, "2(a");
        Checks.fails(IndexOutOfBoundsException.class, () -> x.hear(26), "hear");
        Checks.fails(IllegalArgumentException.class, x::hearSong, "hearSong");
        Checks.fails(IllegalArgumentException.class, () -> x.empty(10), "empty");
        Checks.fails(IllegalArgumentException.class, x::callsOfSong, "callsOfSong");
        Checks.same(y.historySize(), x.historySize(), "history");
        Checks.same(Given.deepView(y), Given.deepView(x), "all, and what is aside");

        ParrotCounts v = Given.full();
        ParrotCounts w = Given.full();
        Checks.fails(IndexOutOfBoundsException.class, () -> v.hear(-1), "no such parrot is told first");
        Checks.fails(IllegalStateException.class, () -> v.hear(0), "hear");
        Checks.fails(IllegalStateException.class, v::hearSong, "hearSong");
        Checks.fails(IllegalStateException.class, v::mergeIn, "mergeIn");
        Checks.same(Given.view(w), Given.view(v), "all");
        v.undo();
        w.undo();
        Checks.same(w.calls(), v.calls(), "calls before");
        Checks.same(w.historySize(), v.historySize(), "history");
    }
}

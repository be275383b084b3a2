/** Promises 27 to 34. */
final class CountsTest {
    private CountsTest() {
    }

    static void run() {
        Checks.test("promise 27: capacity", CountsTest::capacity);
        Checks.test("promise 28: trueCount", CountsTest::trueCount);
        Checks.test("promise 29: calls", CountsTest::calls);
        Checks.test("promise 30: callsByCounters", CountsTest::callsByCounters);
        Checks.test("promise 31: parrotsHeard", CountsTest::parrotsHeard);
        Checks.test("promise 32: greatestError", CountsTest::greatestError);
        Checks.test("promise 33: hasAside", CountsTest::hasAside);
        Checks.test("promise 34: loudestShare", CountsTest::loudestShare);
    }

    private static void capacity() {
        ParrotCounts x = new ParrotCounts();
        Checks.same(4, x.capacity(), "a new object");
        for (int capacity = 1; capacity <= 9; capacity++) {
            x.empty(capacity);
            Checks.same(capacity, x.capacity(), "emptied");
        }
        x.putAside();
        Checks.same(9, x.capacity(), "putAside leaves it");
        x.mergeIn();
        Checks.same(9, x.capacity(), "mergeIn too");
        x.empty(1);
        x.undo();
        Checks.same(9, x.capacity(), "undo restores it");
    }

    private static void trueCount() {
        ParrotCounts x = Given.sung(1, "2a3b4c5dz");
        int[] due = {2, 3, 4, 5, 0};
        for (int parrot = 0; parrot < due.length; parrot++) {
            Checks.same(due[parrot], x.trueCount(parrot), "parrot " + parrot);
        }
        Checks.same(1, x.trueCount(25), "z");
        x.putAside();
        Checks.same(0, x.trueCount(0), "they are aside");
        x.hear(0);
        x.mergeIn();
        Checks.same(3, x.trueCount(0), "they are merged in");
        x.empty(1);
        Checks.same(0, x.trueCount(0), "they are emptied");
        for (int parrot : new int[] {-1, 26, Integer.MIN_VALUE, Integer.MAX_VALUE}) {
            Checks.fails(IndexOutOfBoundsException.class, () -> x.trueCount(parrot), "parrot " + parrot);
        }
    }

    private static void calls() {
        ParrotCounts x = new ParrotCounts();
        Checks.same(0, x.calls(), "a new object");
        x.hear(3);
        Checks.same(1, x.calls(), "one call");
        Given.sing(x, "9(abcdefgz)");
        Checks.same(73, x.calls(), "with a song");
        x.undo();
        Checks.same(1, x.calls(), "without it");
    }

    private static void callsByCounters() {
        ParrotCounts x = Given.sung(2, "5a3b2cdefg");
        Checks.same(14, x.callsByCounters(), "the number of calls");
        x.putAside();
        Checks.same(0, x.callsByCounters(), "new lists");
        Given.sing(x, "3z");
        Checks.same(3, x.callsByCounters(), "calls of z");
        // Aside: a 5, f 4, g 5, so the floor is 4; merged with z 7: g 5, a 5 and z 7 stay.
        x.mergeIn();
        Checks.same(17, x.callsByCounters(), "merged, and 4 for f are gone, and 4 for z have come");
        Given.sing(x, "2y2x");
        Checks.same(21, x.callsByCounters(), "four more");
        ParrotCounts y = Given.sung(2, "9a8b");
        y.putAside();
        Given.sing(y, "7c6d");
        y.mergeIn();
        Checks.same(30, y.calls(), "calls");
        Checks.same(24, y.callsByCounters(), "a, b and c stay, d is gone");
    }

    private static void parrotsHeard() {
        ParrotCounts x = new ParrotCounts();
        Checks.same(0, x.parrotsHeard(), "a new object");
        Given.sing(x, "3a2za");
        Checks.same(2, x.parrotsHeard(), "a and z");
        Given.sing(x, "abcdefghijklmnopqrstuvwxyz");
        Checks.same(26, x.parrotsHeard(), "all of them");
        x.putAside();
        Checks.same(0, x.parrotsHeard(), "new lists");
        x.hear(4);
        Checks.same(1, x.parrotsHeard(), "e");
    }

    private static void greatestError() {
        ParrotCounts x = Given.sung(1, "5a3b");
        Checks.same(3, x.greatestError(), "the floor, for those that are not heard");
        x.hear(2);
        Checks.same(4, x.greatestError(), "the floor is 4");
        Checks.same(0, Given.sung(2, "5a3b").greatestError(), "no error");
        Checks.same(0, new ParrotCounts().greatestError(), "a new object");
        ParrotCounts all = Given.sung(9, "abcdefghijklmnopqrstuvwxyz");
        // u to z took over counters with 2, and have 3 where 1 is true.
        Checks.same(2, all.greatestError(), "all parrots are heard");
        ParrotCounts first = Given.sung(9, "2b2c2d2e2f2g2h2i2j2k2l2m2n2o2p2q2r2s2t2u2v2w2x2y2z");
        // v to z have 6 then, q to u 4, and 6 with two more calls each; so a takes over a counter with 6.
        Given.sing(first, "2q2r2s2t2ua");
        Checks.same(6, first.greatestError(), "the error of a alone");
    }

    private static void hasAside() {
        ParrotCounts x = new ParrotCounts();
        Checks.same(false, x.hasAside(), "a new object");
        x.putAside();
        Checks.same(true, x.hasAside(), "put aside");
        x.putAside();
        Checks.same(true, x.hasAside(), "put aside again");
        x.mergeIn();
        Checks.same(false, x.hasAside(), "merged in");
        x.undo();
        Checks.same(true, x.hasAside(), "merging is undone");
        x.empty(3);
        Checks.same(false, x.hasAside(), "forgotten");
        x.undo();
        x.undo();
        x.undo();
        Checks.same(false, x.hasAside(), "all is undone");
    }

    private static void loudestShare() {
        ParrotCounts x = new ParrotCounts();
        Checks.same(0.0, x.loudestShare(), "a new object");
        x.hear(25);
        Checks.same(1.0, x.loudestShare(), "only z");
        Given.sing(x, "2a");
        Checks.same(2.0 / 3, x.loudestShare(), "a");
        ParrotCounts y = Given.sung(1, "2a2bc2d");
        // c took over that of a with 3, d that of b with 3, then 4.
        Checks.same(4.0 / 7, y.loudestShare(), "the count, not the true count");
        y.putAside();
        Checks.same(0.0, y.loudestShare(), "new lists");
        Checks.same(98901.0 / 99999, Given.full().loudestShare(), "many calls");
    }
}

/** Promises 23 to 26. */
final class SecondListTest {
    private SecondListTest() {
    }

    static void run() {
        Checks.test("promise 23: wornCounters", SecondListTest::wornCounters);
        Checks.test("promise 24: wornCount", SecondListTest::wornCount);
        Checks.test("promise 25: aboveFloor", SecondListTest::aboveFloor);
        Checks.test("promise 25: aboveFloor is the worn count without merging", SecondListTest::aboveFloorIsWornCount);
        Checks.test("promise 26: wear", SecondListTest::wear);
    }

    private static void wornCounters() {
        ParrotCounts x = Given.withCapacity(2);
        int[] heard = {4, 4, 5, 6, 7, 7, 8, 8};
        int[] due = {1, 1, 2, 1, 2, 2, 1, 2};
        for (int i = 0; i < heard.length; i++) {
            x.hear(heard[i]);
            Checks.same(due[i], x.wornCounters(), "counters with call " + i);
        }
        Checks.same(0, Given.sung(1, "ab").wornCounters(), "none is left");
        Checks.same(9, Given.sung(9, "abcdefghi").wornCounters(), "nine of nine");
        Checks.same(0, Given.sung(9, "abcdefghij").wornCounters(), "all are worn away at once");
    }

    private static void wornCount() {
        ParrotCounts x = Given.sung(2, "3a2bz");
        Checks.same(2, x.wornCount(0), "a");
        Checks.same(1, x.wornCount(1), "b");
        Checks.same(0, x.wornCount(25), "z got no counter");
        x.hear(25);
        x.hear(25);
        Checks.same(1, x.wornCount(0), "a after the second z");
        Checks.same(0, x.wornCount(1), "b lost its counter");
        Checks.same(1, x.wornCount(25), "the third z got one");
        for (int parrot : new int[] {-1, 26, Integer.MIN_VALUE, Integer.MAX_VALUE}) {
            Checks.fails(IndexOutOfBoundsException.class, () -> x.wornCount(parrot), "parrot " + parrot);
            Checks.fails(IndexOutOfBoundsException.class, () -> x.aboveFloor(parrot), "parrot " + parrot);
        }
    }

    private static void aboveFloor() {
        ParrotCounts x = Given.sung(1, "5a3b");
        Checks.same(2, x.aboveFloor(0), "a above the 3 of b");
        Checks.same(0, x.aboveFloor(1), "b");
        Checks.same(0, x.aboveFloor(25), "z");
        Checks.same(5, Given.sung(2, "5a3b").aboveFloor(0), "no floor");
        x.putAside();
        Given.sing(x, "2a");
        x.mergeIn();
        // a 5 + 2, b 3 + 0.
        Checks.same(4, x.aboveFloor(0), "a above the 3 of b, merged");
        x.putAside();
        Given.sing(x, "9c8d7e");
        x.mergeIn();
        // The new lists have e 15, d 9, the others a 7, b 3: e 15 + 3, a 7 + 9, d 9 + 3, b 3 + 9.
        Checks.same(2, x.aboveFloor(4), "e above the 16 of a");
        Checks.same(0, x.aboveFloor(0), "a");
    }

    private static void aboveFloorIsWornCount() {
        ParrotCounts x = Given.sung(3, "4a3b2cdefgh3iabzyzx");
        for (int parrot = 0; parrot < Given.PARROTS; parrot++) {
            Checks.same(x.wornCount(parrot), x.aboveFloor(parrot), "parrot " + parrot);
        }
        Checks.same(x.floor(), x.wear(), "the floor is the wear then");
    }

    private static void wear() {
        ParrotCounts x = Given.sung(1, "3a");
        Checks.same(0, x.wear(), "not worn yet");
        x.hear(1);
        Checks.same(1, x.wear(), "once");
        Given.sing(x, "2b");
        Checks.same(3, x.wear(), "three times");
        x.hear(1);
        Checks.same(3, x.wear(), "b got a counter");
        x.empty(1);
        Checks.same(0, x.wear(), "emptied");
    }
}

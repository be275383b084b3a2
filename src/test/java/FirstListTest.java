import java.util.NoSuchElementException;

/** Promises 13 to 22. */
final class FirstListTest {
    private FirstListTest() {
    }

    static void run() {
        Checks.test("promise 13: counters", FirstListTest::counters);
        Checks.test("promise 14: estimate", FirstListTest::estimate);
        Checks.test("promise 15: sureCount", FirstListTest::sureCount);
        Checks.test("promise 16: surplus", FirstListTest::surplus);
        Checks.test("promise 17: floor", FirstListTest::floor);
        Checks.test("promise 18: nextTakenOver", FirstListTest::nextTakenOver);
        Checks.test("promise 19: loudest", FirstListTest::loudest);
        Checks.test("promise 20: surelyAbove", FirstListTest::surelyAbove);
        Checks.test("promise 21: perhapsAbove", FirstListTest::perhapsAbove);
        Checks.test("promise 22: trulyAbove", FirstListTest::trulyAbove);
        Checks.test("promises 20 to 22: great shares of many calls", FirstListTest::aboveMany);
        Checks.test("promises 13 to 22: queries change nothing", FirstListTest::nothingChanged);
    }

    private static void counters() {
        ParrotCounts x = Given.withCapacity(2);
        int[] due = {1, 1, 2, 3, 3, 3};
        int[] heard = {4, 4, 5, 6, 7, 8};
        for (int i = 0; i < heard.length; i++) {
            x.hear(heard[i]);
            Checks.same(due[i], x.counters(), "counters with call " + i);
        }
    }

    private static void estimate() {
        ParrotCounts x = Given.sung(3, "5a3b2c");
        Checks.same(5, x.estimate(0), "a has a counter");
        Checks.same(0, x.estimate(25), "z is not heard, and there are counters for more");
        x.hear(3);
        Checks.same(1, x.estimate(25), "z may have the floor");
        x.hear(4);
        Checks.same(2, x.estimate(4), "e took over");
        Checks.same(2, x.estimate(3), "d lost its counter");
        wrongParrots(x::estimate);
    }

    private interface Query {
        Object of(int parrot);
    }

    private static void wrongParrots(Query query) {
        for (int parrot : new int[] {-1, 26, Integer.MIN_VALUE, Integer.MAX_VALUE}) {
            Checks.fails(IndexOutOfBoundsException.class, () -> query.of(parrot), "parrot " + parrot);
        }
    }

    private static void sureCount() {
        ParrotCounts x = Given.sung(1, "5a3bc");
        Checks.same(5, x.sureCount(0), "a never lost its counter");
        Checks.same(1, x.sureCount(2), "c took over the count 3");
        Checks.same(0, x.sureCount(1), "b lost its counter");
        Checks.same(0, x.sureCount(25), "z is not heard");
        x.hear(1);
        Checks.same(1, x.sureCount(1), "b has a counter again");
        Checks.same(4, x.trueCount(1), "though it was heard more often");
        wrongParrots(x::sureCount);
    }

    private static void surplus() {
        ParrotCounts x = Given.sung(1, "5a3b");
        Checks.same(0, x.surplus(0), "a took nothing over");
        Checks.fails(NoSuchElementException.class, () -> x.surplus(2), "c is not heard");
        x.hear(2);
        Checks.same(3, x.surplus(2), "c took over the count 3");
        Checks.fails(NoSuchElementException.class, () -> x.surplus(1), "b lost its counter");
        x.hear(2);
        Checks.same(3, x.surplus(2), "one more call of c");
        x.hear(1);
        Checks.same(5, x.surplus(1), "b took over that of a, which changed longer ago");
        wrongParrots(x::surplus);
        wrongParrots(new ParrotCounts()::surplus);
    }

    private static void floor() {
        ParrotCounts x = Given.sung(2, "3a2b");
        Checks.same(0, x.floor(), "two of three counters");
        x.hear(25);
        Checks.same(1, x.floor(), "three of them");
        x.hear(25);
        x.hear(25);
        Checks.same(2, x.floor(), "b has the least count now");
        x.hear(24);
        Checks.same(3, x.floor(), "all have 3");
    }

    private static void nextTakenOver() {
        ParrotCounts x = Given.sung(2, "2c2b");
        Checks.fails(NoSuchElementException.class, x::nextTakenOver, "two of three counters");
        x.hear(0);
        Checks.same(0, x.nextTakenOver(), "a has the least count");
        x.hear(0);
        Checks.same(2, x.nextTakenOver(), "c was changed longest ago");
        x.hear(25);
        Checks.same(1, x.nextTakenOver(), "z took over that of c");
        Checks.fails(NoSuchElementException.class, new ParrotCounts()::nextTakenOver, "a new object");
    }

    private static void loudest() {
        ParrotCounts x = Given.sung(9, "2z3yax3wb");
        int[] due = {22, 24, 25, 0, 1, 23};
        for (int position = 0; position < due.length; position++) {
            Checks.same(due[position], x.loudest(position), "position " + position);
        }
        Checks.fails(NoSuchElementException.class, () -> x.loudest(6), "position 6");
        Checks.fails(NoSuchElementException.class, () -> x.loudest(25), "position 25");
        Checks.fails(NoSuchElementException.class, () -> x.loudest(26), "position 26");
        Checks.fails(NoSuchElementException.class, () -> x.loudest(Integer.MAX_VALUE), "the greatest position");
        Checks.fails(IllegalArgumentException.class, () -> x.loudest(-1), "position -1");
        Checks.fails(IllegalArgumentException.class, () -> x.loudest(Integer.MIN_VALUE), "the least position");
        Checks.fails(NoSuchElementException.class, () -> new ParrotCounts().loudest(0), "a new object");
        Checks.fails(IllegalArgumentException.class, () -> new ParrotCounts().loudest(-1), "negative is told first");
    }

    private static int bits(String names) {
        int bits = 0;
        for (char name : names.toCharArray()) {
            bits |= 1 << (name - 'a');
        }
        return bits;
    }

    private static final int ALL = (1 << Given.PARROTS) - 1;

    private static void wrongShares(Query query) {
        for (int permille : new int[] {-1, 1001, Integer.MIN_VALUE, Integer.MAX_VALUE}) {
            Checks.fails(IllegalArgumentException.class, () -> query.of(permille), "permille " + permille);
        }
    }

    private static void surelyAbove() {
        ParrotCounts x = Given.sung(1, "5a3b2c");
        // Of 10 calls: a 5 for sure; c 2 for sure, having taken over the count 3.
        Checks.same(bits("ac"), x.surelyAbove(0), "above 0");
        Checks.same(bits("ac"), x.surelyAbove(199), "above 199");
        Checks.same(bits("a"), x.surelyAbove(200), "not c above 200");
        Checks.same(bits("a"), x.surelyAbove(499), "above 499");
        Checks.same(0, x.surelyAbove(500), "above 500");
        Checks.same(0, x.surelyAbove(1000), "above 1000");
        Checks.same(0, new ParrotCounts().surelyAbove(0), "a new object");
        wrongShares(x::surelyAbove);
    }

    private static void perhapsAbove() {
        ParrotCounts x = Given.sung(1, "4a3bcd");
        // Of 9 calls: c took over that of b and has 4, d then that of a and has 5; so the floor is 4.
        Checks.same(ALL, x.perhapsAbove(0), "above 0");
        Checks.same(ALL, x.perhapsAbove(444), "above 444");
        Checks.same(bits("d"), x.perhapsAbove(445), "above 445");
        Checks.same(bits("d"), x.perhapsAbove(555), "above 555");
        Checks.same(0, x.perhapsAbove(556), "above 556");
        ParrotCounts y = Given.sung(4, "5az");
        Checks.same(bits("az"), y.perhapsAbove(0), "no floor");
        Checks.same(bits("z"), Given.sung(4, "2z").perhapsAbove(999), "all calls are above 999");
        Checks.same(0, Given.sung(4, "2z").perhapsAbove(1000), "but not above 1000");
        Checks.same(0, new ParrotCounts().perhapsAbove(0), "a new object");
        wrongShares(x::perhapsAbove);
    }

    private static void trulyAbove() {
        ParrotCounts x = Given.sung(1, "5a3bcz");
        // Of 10 calls, whoever has a counter.
        Checks.same(bits("abcz"), x.trulyAbove(0), "above 0");
        Checks.same(bits("abcz"), x.trulyAbove(99), "above 99");
        Checks.same(bits("ab"), x.trulyAbove(100), "above 100");
        Checks.same(bits("a"), x.trulyAbove(300), "above 300");
        Checks.same(0, x.trulyAbove(500), "above 500");
        Checks.same(0, x.trulyAbove(1000), "above 1000");
        Checks.same(0, new ParrotCounts().trulyAbove(0), "a new object");
        wrongShares(x::trulyAbove);
    }

    private static void aboveMany() {
        ParrotCounts x = Given.full();
        Checks.same(99999, x.calls(), "calls");
        Checks.same(bits("a"), x.trulyAbove(500), "most calls are of a");
        Checks.same(bits("a"), x.surelyAbove(900), "for sure");
        Checks.same(bits("a"), x.perhapsAbove(980), "perhaps more");
        Checks.same(0, x.perhapsAbove(1000), "not more than all");
        Checks.same(bits("ab"), x.trulyAbove(0), "both are heard");
    }

    private static void nothingChanged() {
        ParrotCounts x = Given.sung(3, "a3b2dc5ez");
        String view = Given.view(x);
        Checks.same(view, Given.view(x), "the second view");
        Checks.same(2, x.historySize(), "no query is a modification");
        x.loudest(0);
        x.trulyAbove(3);
        x.perhapsAbove(3);
        x.surelyAbove(3);
        Checks.same(2, x.historySize(), "nor these");
    }
}

import java.util.NoSuchElementException;

/** Sentences of the terms on parrots, calls and both lists: where they begin, are full, and have counts alike. */
final class ListSentences {
    private static final String PARROTS = "PARROTS, CALLS";
    private static final String FIRST = "THE FIRST LIST";
    private static final String SECOND = "THE SECOND LIST";
    private static final String TAKES_OVER = "Otherwise it takes over the counter with the least count, of several the one "
        + "that was changed longest ago: the surplus becomes that count, and the count becomes 1 greater.";
    private static final String ESTIMATE = "The estimate of a parrot is its count if it has a counter, and otherwise the "
        + "floor; it is never less than the true count.";
    private static final String SURE = "The sure count of a parrot is its count minus its surplus if it has a counter, "
        + "and otherwise 0; it is never greater than the true count.";
    private static final String WORN = "Otherwise all counts become 1 less, and counters with the count 0 are removed; "
        + "the parrot gets none.";

    private ListSentences() {
    }

    static void run() {
        Document.test(PARROTS, "There are 26 parrots, 0 to 25, named \"a\" to \"z\".", ListSentences::parrots);
        Document.test(PARROTS, "The true count of a parrot is the number of its calls since the lists were emptied last, "
            + "together with those that were merged in.", ListSentences::trueCounts);
        Document.test(PARROTS, "The capacity k is 1 to 9 (4 at the beginning).", ListSentences::capacity);
        firstList();
        secondList();
    }

    private static void firstList() {
        Document.test(FIRST, "The first list has at most k + 1 counters; each belongs to a parrot, and has a count and a "
            + "surplus.", ListSentences::fullFirst);
        Document.test(FIRST, "When a parrot is heard that has a counter, its count becomes 1 greater.",
            ListSentences::countedFirst);
        Document.test(FIRST, "Otherwise, if there are fewer than k + 1 counters, it gets one with the count 1 and the "
            + "surplus 0.", "the last one", ListSentences::lastCounter);
        Document.test(FIRST, "Otherwise, if there are fewer than k + 1 counters, it gets one with the count 1 and the "
            + "surplus 0.", "in new lists", ListSentences::counterInNewLists);
        Document.test(FIRST, TAKES_OVER, "the least", ListSentences::takesLeast);
        Document.test(FIRST, TAKES_OVER, "the oldest of several", ListSentences::takesOldest);
        Document.test(FIRST, TAKES_OVER, "one that was taken over before", ListSentences::takesTaken);
        Document.test(FIRST, "The floor of the first list is its least count if it has k + 1 counters, and otherwise 0.",
            ListSentences::floor);
        Document.test(FIRST, ESTIMATE, "without a counter", ListSentences::estimateWithout);
        Document.test(FIRST, SURE, "without a counter", ListSentences::sureWithout);
        Document.test(FIRST, ESTIMATE, "never less", () -> everywhere(ListSentences::estimateIsNotLess));
        Document.test(FIRST, SURE, "never greater", () -> everywhere(ListSentences::sureIsNotGreater));
    }

    private static void secondList() {
        Document.test(SECOND, "The second list has at most k counters, each with a count.", ListSentences::fullSecond);
        Document.test(SECOND, "When a parrot is heard that has a counter, its count becomes 1 greater.",
            ListSentences::countedSecond);
        Document.test(SECOND, "Otherwise, if there are fewer than k counters, it gets one with the count 1.",
            ListSentences::lastWornCounter);
        Document.test(SECOND, WORN, "some are removed", ListSentences::someRemoved);
        Document.test(SECOND, WORN, "all are removed", ListSentences::allRemoved);
        Document.test(SECOND, "The wear of the second list is how often that has happened.", ListSentences::wear);
    }

    private static void parrots() {
        for (int parrot = 0; parrot < Given.PARROTS; parrot++) {
            ParrotCounts x = new ParrotCounts();
            x.hear(parrot);
            Given.sing(x, String.valueOf((char) ('a' + parrot)));
            Checks.same(2, x.trueCount(parrot), "calls of parrot " + parrot);
            Checks.same(1, x.parrotsHeard(), "no other one is heard");
        }
    }

    private static void trueCounts() {
        ParrotCounts x = Given.sung(1, "3a4b5cd");
        Checks.same(3, x.trueCount(0), "a has lost its counter");
        x.putAside();
        Checks.same(0, x.trueCount(0), "new lists are empty");
        x.hear(0);
        x.mergeIn();
        Checks.same(4, x.trueCount(0), "with those that were merged in");
        x.empty(1);
        Checks.same(0, x.trueCount(0), "emptied");
        x.hear(0);
        Checks.same(1, x.trueCount(0), "since then");
    }

    private static void capacity() {
        ParrotCounts x = new ParrotCounts();
        Given.sing(x, "abcdef");
        Checks.same(5, x.counters(), "4 + 1 at the beginning");
        for (int capacity = 1; capacity <= 9; capacity++) {
            x.empty(capacity);
            Checks.same(capacity, x.capacity(), "taken");
        }
    }

    private static void fullFirst() {
        for (int capacity = 1; capacity <= 9; capacity++) {
            ParrotCounts x = Given.withCapacity(capacity);
            for (int parrot = 0; parrot < Given.PARROTS; parrot++) {
                x.hear(parrot);
                Checks.same(Math.min(parrot + 1, capacity + 1), x.counters(), "counters with the capacity " + capacity);
            }
        }
    }

    private static void countedFirst() {
        ParrotCounts x = Given.sung(1, "2a3bc");
        // The list is full: c took over the counter of a with the surplus 2, and has 3.
        Checks.same(4, x.hear(2), "c is counted");
        Checks.same(2, x.surplus(2), "the surplus of c is as it was");
        Checks.same(3, x.estimate(1), "b is as it was");
        Checks.same(2, x.counters(), "no counter more");
    }

    private static void lastCounter() {
        for (int capacity = 1; capacity <= 9; capacity++) {
            ParrotCounts x = Given.sung(capacity, "3a3b3c3d3e3f3g3h3i".substring(0, 2 * capacity));
            Checks.same(1, x.hear(25), "z has the count 1 with the capacity " + capacity);
            Checks.same(0, x.surplus(25), "and the surplus 0");
            Checks.same(3, x.estimate(0), "a keeps its counter");
            Checks.same(capacity + 1, x.counters(), "it was the last one");
        }
    }

    private static void counterInNewLists() {
        ParrotCounts x = Given.sung(1, "3a4bc");
        Checks.same(3, x.surplus(2), "c took over the count 3");
        x.putAside();
        Checks.same(1, x.hear(2), "c in lists that were begun");
        Checks.same(0, x.surplus(2), "its surplus");
        x.empty(1);
        Checks.same(1, x.hear(2), "c in lists that were emptied");
        Checks.same(0, x.surplus(2), "its surplus");
    }

    private static void takesLeast() {
        ParrotCounts x = Given.sung(2, "3a4c2b");
        Checks.same(3, x.hear(3), "d takes over 2, though it was changed last");
        Checks.same(2, x.surplus(3), "its surplus");
        Checks.fails(NoSuchElementException.class, () -> x.surplus(1), "it was the counter of b");
        Checks.same(3, x.estimate(0), "a is as it was");
        Checks.same(4, x.estimate(2), "c is as it was");
        Checks.same(3, x.counters(), "counters");
    }

    private static void takesOldest() {
        ParrotCounts x = Given.sung(9, "jihgfedcba");
        // All have 1, in the order of the song.
        for (int heard = 10; heard < 20; heard++) {
            int oldest = 19 - heard;
            Checks.same(oldest, x.nextTakenOver(), "the oldest one");
            Checks.same(2, x.hear(heard), "taken over by " + heard);
            Checks.fails(NoSuchElementException.class, () -> x.surplus(oldest), "no counter any more");
        }
        Checks.same(10, x.nextTakenOver(), "all have 2; who took over first is the oldest one");
        ParrotCounts y = Given.sung(2, "abcab");
        y.hear(2);
        Checks.same(0, y.nextTakenOver(), "each was changed twice, a longest ago");
        ParrotCounts z = Given.sung(2, "2abcacb");
        // Changed last: b behind c, both have 2; a has 3.
        Checks.same(2, z.nextTakenOver(), "c was changed before b, though it is younger");
    }

    private static void takesTaken() {
        ParrotCounts x = Given.sung(1, "3a2bc");
        // c took over 2, and has 3; a was changed before.
        Checks.same(4, x.hear(3), "d takes over that of a");
        Checks.same(4, x.hear(4), "e takes over that of c");
        Checks.same(3, x.surplus(4), "the count of c, not its surplus");
        Checks.same(1, x.sureCount(4), "only its own call is sure");
    }

    private static void floor() {
        for (int capacity = 1; capacity <= 9; capacity++) {
            ParrotCounts x = Given.sung(capacity, "3a3b3c3d3e3f3g3h3i".substring(0, 2 * capacity));
            Checks.same(0, x.floor(), "one counter is left with the capacity " + capacity);
            x.hear(25);
            Checks.same(1, x.floor(), "the least count is that of z");
            Given.sing(x, "3z");
            Checks.same(3, x.floor(), "the least count is that of the others");
        }
    }

    private static void estimateWithout() {
        ParrotCounts x = Given.sung(2, "5a3b");
        Checks.same(0, x.estimate(25), "z, as long as a counter is left");
        x.hear(2);
        Checks.same(1, x.estimate(25), "z, the list being full");
        Given.sing(x, "2cd");
        Checks.same(3, x.estimate(1), "b lost its counter to d, and c has the least count");
        x.hear(2);
        Checks.same(4, x.estimate(1), "b, the least count being 4");
        Checks.same(4, x.estimate(25), "z too");
    }

    private static void sureWithout() {
        ParrotCounts x = Given.sung(1, "2a3b");
        Checks.same(0, x.sureCount(25), "z is not heard");
        x.hear(2);
        Checks.same(0, x.sureCount(0), "a lost its counter");
        Checks.same(0, x.sureCount(25), "z, whatever the floor is");
        Checks.same(1, x.sureCount(2), "c took over");
        Given.sing(x, "2ba");
        Checks.same(0, x.sureCount(2), "c lost the counter that it took over");
        x.putAside();
        Checks.same(0, x.sureCount(0), "a has none in new lists, though it took one over before");
    }

    private static void everywhere(java.util.function.Consumer<ParrotCounts> holds) {
        holds.accept(new ParrotCounts());
        for (int capacity = 1; capacity <= 9; capacity++) {
            ParrotCounts x = Given.sung(capacity, "3(abc2d)9(xyzx)klmnop2(qrstuvab)cd");
            holds.accept(x);
            x.putAside();
            Given.sing(x, "7(yaxb)3(efghijkl)2a5z");
            x.mergeIn();
            holds.accept(x);
            Given.sing(x, "2(abcdefghijklmnopqrstuvwxyz)");
            holds.accept(x);
        }
    }

    private static void estimateIsNotLess(ParrotCounts x) {
        for (int parrot = 0; parrot < Given.PARROTS; parrot++) {
            Checks.isTrue(x.estimate(parrot) >= x.trueCount(parrot), "the estimate of " + parrot + " is too small");
        }
    }

    private static void sureIsNotGreater(ParrotCounts x) {
        for (int parrot = 0; parrot < Given.PARROTS; parrot++) {
            Checks.isTrue(x.sureCount(parrot) <= x.trueCount(parrot), "the sure count of " + parrot + " is too great");
        }
    }

    private static void fullSecond() {
        for (int capacity = 1; capacity <= 9; capacity++) {
            ParrotCounts x = Given.withCapacity(capacity);
            for (int parrot = 0; parrot < capacity; parrot++) {
                x.hear(parrot);
                Checks.same(parrot + 1, x.wornCounters(), "counters with the capacity " + capacity);
                x.hear(parrot);
            }
            x.hear(24);
            Checks.same(capacity, x.wornCounters(), "no counter for one more");
            x.hear(25);
            Checks.same(0, x.wornCounters(), "all are worn away");
        }
    }

    private static void countedSecond() {
        ParrotCounts x = Given.sung(2, "2ab");
        x.hear(0);
        x.hear(1);
        Checks.same(3, x.wornCount(0), "a, the list being full");
        Checks.same(2, x.wornCount(1), "b");
        Checks.same(0, x.wear(), "no wear");
    }

    private static void lastWornCounter() {
        for (int capacity = 1; capacity <= 9; capacity++) {
            ParrotCounts x = Given.sung(capacity, "a3b3c3d3e3f3g3h3i".substring(0, 2 * capacity - 1));
            Checks.same(capacity, x.wornCounters(), "the last one is given away");
            Checks.same(0, x.wear(), "no wear with the capacity " + capacity);
            Checks.same(1, x.wornCount(0), "the count of the first one");
            x.hear(25);
            Checks.same(capacity - 1, x.wornCounters(), "a lost its counter");
            x.hear(25);
            Checks.same(1, x.wornCount(25), "z gets it with the count 1");
            Checks.same(1, x.wear(), "no more wear");
        }
    }

    private static void someRemoved() {
        ParrotCounts x = Given.sung(3, "3ab2c");
        x.hear(3);
        Checks.same(2, x.wornCount(0), "a");
        Checks.same(0, x.wornCount(1), "b had 1");
        Checks.same(1, x.wornCount(2), "c");
        Checks.same(0, x.wornCount(3), "d gets none");
        Checks.same(2, x.wornCounters(), "the counter of b is removed");
    }

    private static void allRemoved() {
        ParrotCounts x = Given.sung(9, "abcdefghi");
        x.hear(9);
        Checks.same(0, x.wornCounters(), "all had 1");
        Checks.same(0, x.wornCount(9), "j gets none");
        x.hear(9);
        Checks.same(1, x.wornCounters(), "then it gets one");
        Checks.same(1, x.wear(), "worn once");
    }

    private static void wear() {
        ParrotCounts x = Given.sung(2, "5a5b");
        Checks.same(0, x.wear(), "never yet");
        Given.sing(x, "5(cdefg)");
        // 5 times each of both counts becomes less; then c and d to g, as they come, get counters and wear down.
        Checks.same(11, x.wear(), "of 25 calls, 5 wear down a and b, and every third of the other 20 all others");
        x.hear(6);
        Checks.same(11, x.wear(), "g has a counter");
    }
}
